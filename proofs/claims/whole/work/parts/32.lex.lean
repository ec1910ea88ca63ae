/-! THE LEXER: the text's tokens; the model's next -/
/-- S' is S but for the ints, booleans, arrays named -/
def Sm (is bs ar : List Nat) (S S' : MS) : Prop := (∀ j, j ∉ is → S'.1 j = S.1 j) ∧ (∀ j, j ∉ bs → S'.2.1 j = S.2.1 j) ∧ (∀ j, j ∉ ar → S'.2.2.1 j = S.2.2.1 j) ∧ S'.2.2.2 = S.2.2.2
theorem Sm.rf {is bs ar : List Nat} {S : MS} : Sm is bs ar S S := ⟨fun _ _ => rfl, fun _ _ => rfl, fun _ _ => rfl, rfl⟩
theorem Sm.tr {is bs ar : List Nat} {S S' S'' : MS} (h : Sm is bs ar S S') (h' : Sm is bs ar S' S'') : Sm is bs ar S S'' := ⟨fun j hj => (h'.1 j hj).trans (h.1 j hj), fun j hj => (h'.2.1 j hj).trans (h.2.1 j hj), fun j hj => (h'.2.2.1 j hj).trans (h.2.2.1 j hj), h'.2.2.2.trans h.2.2.2⟩
theorem Sm.mo {is bs ar is' bs' ar' : List Nat} {S S' : MS} (h : Sm is bs ar S S') (h1 : ∀ j, j ∈ is → j ∈ is') (h2 : ∀ j, j ∈ bs → j ∈ bs') (h3 : ∀ j, j ∈ ar → j ∈ ar') : Sm is' bs' ar' S S' := ⟨fun j hj => h.1 j fun e => hj (h1 j e), fun j hj => h.2.1 j fun e => hj (h2 j e), fun j hj => h.2.2.1 j fun e => hj (h3 j e), h.2.2.2⟩
theorem Sm.i {is bs ar : List Nat} {S S' : MS} {k : Nat} {v : Int32} (h : Sm is bs ar S S') (hk : k ∈ is) : Sm is bs ar S (seti S' k v) := ⟨fun j hj => (if_neg (fun (e : j = k) => hj (e ▸ hk))).trans (h.1 j hj), h.2⟩
theorem Sm.b {is bs ar : List Nat} {S S' : MS} {k : Nat} {v : Bool} (h : Sm is bs ar S S') (hk : k ∈ bs) : Sm is bs ar S (setb S' k v) := ⟨h.1, fun j hj => (if_neg (fun (e : j = k) => hj (e ▸ hk))).trans (h.2.1 j hj), h.2.2⟩
theorem Sm.a {is bs ar : List Nat} {S S' : MS} {k : Nat} {f : Nat → Int32} (h : Sm is bs ar S S') (hk : k ∈ ar) : Sm is bs ar S (seta S' k f) := ⟨h.1, h.2.1, fun j hj => (if_neg (fun (e : j = k) => hj (e ▸ hk))).trans (h.2.2.1 j hj), h.2.2.2⟩
theorem TXT.sm {B : Nat → Nat} {N : Nat} {is bs ar : List Nat} {S S' : MS} (ht : TXT B N S) (h : Sm is bs ar S S') (h1 : 3 ∉ is) (h2 : 1 ∉ ar) : TXT B N S' := ⟨ht.1, (h.1 3 h1).trans ht.2.1, ht.2.2.1, fun j hj => by rw [h.2.2.1 1 h2]; exact ht.2.2.2 j hj⟩
/-- the first place from k, at most n further, where p doesn't hold -/
def rn (p : Nat → Bool) : Nat → Nat → Nat
  | 0, k => k
  | n + 1, k => if p k then rn p n (k + 1) else k
theorem rn_le (p : Nat → Bool) : ∀ n k, k ≤ rn p n k ∧ rn p n k ≤ k + n
  | 0, k => ⟨Nat.le_refl _, Nat.le_refl _⟩
  | n + 1, k => by
    have := rn_le p n (k + 1)
    simp only [rn]
    split <;> omega
theorem rn_in (p : Nat → Bool) : ∀ n k j, k ≤ j → j < rn p n k → p j = true
  | 0, k, j => by intro h1 h2; simp only [rn] at h2; omega
  | n + 1, k, j => by
    intro h1 h2
    simp only [rn] at h2
    split at h2
    · rename_i h3
      by_cases e : k = j
      · exact e ▸ h3
      · exact rn_in p n (k + 1) j (by omega) h2
    · omega
theorem rn_out (p : Nat → Bool) {N : Nat} (hp : ∀ j, N ≤ j → p j = false) : ∀ n k, N - k ≤ n → p (rn p n k) = false
  | 0, k => fun h => hp _ (by simp only [rn]; omega)
  | n + 1, k => fun h => by
    simp only [rn]
    split
    · exact rn_out p hp n (k + 1) (by omega)
    · rename_i h3; simpa using h3
def pSp (B : Nat → Nat) (N k : Nat) : Bool := decide (k < N) && decide (B k = 32)
def pSm (B : Nat → Nat) (N k : Nat) : Bool := decide (k < N) && (decide (97 ≤ B k) && decide (B k ≤ 122))
def pDg (B : Nat → Nat) (N k : Nat) : Bool := decide (k < N) && (decide (48 ≤ B k) && decide (B k ≤ 57))
theorem lk_sp {B : Nat → Nat} {N k : Nat} (hb : ∀ j, B j < 256) : lk B N k = 32 ↔ pSp B N k = true := by
  unfold lk pSp
  split
  · rename_i h
    rw [show (32 : Int32) = nI 32 from rfl, nt_eq (by have := hb k; omega) (by decide)]
    simp [h]
  · rename_i h
    simp [h]
theorem lk_sm {B : Nat → Nat} {N k : Nat} (hb : ∀ j, B j < 256) : smallI (lk B N k) = pSm B N k := by
  unfold lk pSm smallI
  split
  · rename_i h
    have h2 : B k < 2 ^ 31 := by have := hb k; omega
    simp only [show (97 : Int32) = nI 97 from rfl, show (122 : Int32) = nI 122 from rfl, nt_lt h2 (show 97 < 2 ^ 31 by decide), nt_lt (show 122 < 2 ^ 31 by decide) h2]
    simp [h]
  · rename_i h
    simp [h]
theorem lk_dg {B : Nat → Nat} {N k : Nat} (hb : ∀ j, B j < 256) : digitI (lk B N k) = pDg B N k := by
  unfold lk pDg digitI
  split
  · rename_i h
    have h2 : B k < 2 ^ 31 := by have := hb k; omega
    simp only [show (48 : Int32) = nI 48 from rfl, show (57 : Int32) = nI 57 from rfl, nt_lt h2 (show 48 < 2 ^ 31 by decide), nt_lt (show 57 < 2 ^ 31 by decide) h2]
    simp [h]
  · rename_i h
    simp [h]
/-- the number that c digits from a spell -/
def dg (B : Nat → Nat) (a : Nat) : Nat → Nat
  | 0 => 0
  | c + 1 => 10 * dg B a c + (B (a + c) - 48)
theorem dg_lt {B : Nat → Nat} {a : Nat} (hb : ∀ j, B j < 256) : ∀ c, c ≤ 3 → dg B a c < 30000 := by
  have h0 := hb a
  have h1 := hb (a + 1)
  have h2 := hb (a + 2)
  intro c hc
  rcases (show c = 0 ∨ c = 1 ∨ c = 2 ∨ c = 3 by omega) with rfl | rfl | rfl | rfl <;> simp only [dg, Nat.add_zero] <;> omega
/-- where the token behind place k begins, where it ends, what it is: 0 none, 1 bad, 2 word, 3 whole, 59, 44 -/
def tA (B : Nat → Nat) (N k : Nat) : Nat := rn (pSp B N) (N - k) k
def eE (B : Nat → Nat) (N a : Nat) : Nat := if N ≤ a then a else if pSm B N a then rn (pSm B N) (N - a) a else if pDg B N a then rn (pDg B N) (N - a) a else a + 1
def eK (B : Nat → Nat) (N a : Nat) : Nat := if N ≤ a then 0 else if pSm B N a then (if 8 < eE B N a - a then 1 else 2) else if pDg B N a then (if 3 < eE B N a - a then 1 else 3) else if B a = 59 then 59 else if B a = 44 then 44 else 1
def tE (B : Nat → Nat) (N k : Nat) : Nat := eE B N (tA B N k)
def tK (B : Nat → Nat) (N k : Nat) : Nat := eK B N (tA B N k)
/-- the model stands at the token that begins at a -/
def TkA (B : Nat → Nat) (N a : Nat) (S : MS) : Prop := S.1 4 = nI a ∧ S.1 5 = nI (eE B N a) ∧ S.1 6 = nI (eK B N a) ∧ (eK B N a = 2 → S.1 8 = nI (eE B N a - a) ∧ ∀ j, j < eE B N a - a → S.2.2.1 12 j = nI (B (a + j))) ∧ (eK B N a = 3 → S.1 7 = nI (dg B a (eE B N a - a)))
section LEX
variable {l : Launch} {G : GG} {d m : Nat} {A : Nat → Nat} {ρ : Hp} {B : Nat → Nat} {N : Nat} {K : Hp → Prop}
theorem z_m_small0 (hA : okA m A) {a : Nat} {k : Nat} {S : MS} (ha : a ≤ k) (hkN : k ≤ N) (ht : TXT B N S) (h8 : S.1 8 = nI (k - a)) (hl : ∀ j, j < k - a → j < 8 → S.2.2.1 12 j = nI (B (a + j))) (hp : pSm B N k = false)
    (hK : ∀ S' : MS, Sm [5, 6, 8] [] [12] S S' → S'.1 5 = nI k → S'.1 8 = nI (k - a) → S'.1 6 = nI (if 8 < k - a then 1 else 2) → (∀ j, j < k - a → j < 8 → S'.2.2.1 12 j = nI (B (a + j))) → K (mh m A S' ρ)) :
    ∃ n', Z_X12_next_67 l G (d + 1) K n' m (nI k) (mh m A S ρ) := by
  have hN := ht.1
  refine ⟨1, ?_⟩
  simp only [Z_X12_next_67, F_X12_next_67, F_X12_next_137, F_X12_next_247]
  refine s_X12_look hA (by omega) ht ?_
  refine s_X12_isSmall ?_
  rw [lk_sm ht.2.2.1, hp]
  refine ⟨fun _ => ?_, fun hc => absurd hc (by decide)⟩
  simp only [mfI_0, mpI_0, mfN_1, mfI_2, mpI_2, mfI_3, mpI_3, mfI_4, mpI_4, mfI_5, mpI_5, mfI_6, mpI_6, mfI_7, mpI_7, mfI_8, mpI_8, mfI_9, mpI_9, mfI_10, mpI_10, mfI_11, mpI_11, mfN_12, mfZ_13, mpZ_13, mfZ_14, mpZ_14, mfN_15, mfN_16, mfN_17, mfN_18, mfN_19, mfN_20, mfI_21, mpI_21, mfI_22, mpI_22, mfN_23, mfN_24, mfN_25, mfN_26, mfN_27, mfN_28, mfN_29, mfI_30, mpI_30, mfN_31, mfN_32, mfN_33, mfN_34, mfN_35, mfN_36, mfN_37, mfI_38, mpI_38, mfN_39, mfI_40, mpI_40, mfI_41, mpI_41, mgI_1 hA, msI_1 hA, mgI_12 hA, msI_12 hA, mgI_15 hA, msI_15 hA, mgI_16 hA, msI_16 hA, mgI_17 hA, msI_17 hA, mgI_18 hA, msI_18 hA, mgI_19 hA, msI_19 hA, mgI_20 hA, msI_20 hA, mgI_23 hA, msI_23 hA, mgI_24 hA, msI_24 hA, mgI_25 hA, msI_25 hA, mgI_26 hA, msI_26 hA, mgI_27 hA, msI_27 hA, mgI_28 hA, msI_28 hA, mgI_29 hA, msI_29 hA, mgI_31 hA, msI_31 hA, mgI_32 hA, msI_32 hA, mgI_33 hA, msI_33 hA, mgI_34 hA, msI_34 hA, mgI_35 hA, msI_35 hA, mgI_36 hA, msI_36 hA, mgI_39 hA, msI_39 hA, mgJ hA, msJ hA, ms_i, ms_i2, ms_b1, ms_b, ms_b2, ms_a1, ms_a2, ms_a, ms_a3, ms_j1, ms_j2, ms_j3, ms_j, ↓reduceIte, Nat.reduceEqDiff, h8]
  rw [show (8 : Int32) = nI 8 from rfl, nt_le (by omega) (by decide)]
  refine ⟨fun hc => ?_, fun hc => ?_⟩
  · refine hK _ (Sm.i (Sm.i Sm.rf (by decide)) (by decide)) rfl h8 ?_ hl
    rw [if_neg (by omega)]; rfl
  · refine hK _ (Sm.i (Sm.i Sm.rf (by decide)) (by decide)) rfl h8 ?_ hl
    rw [if_pos (by omega)]; rfl
theorem z_m_small (hA : okA m A) {a : Nat} : ∀ n k (S : MS), N - k ≤ n → a ≤ k → k ≤ N → TXT B N S → S.1 8 = nI (k - a) → (∀ j, j < k - a → j < 8 → S.2.2.1 12 j = nI (B (a + j))) →
    (∀ S' : MS, Sm [5, 6, 8] [] [12] S S' → S'.1 5 = nI (rn (pSm B N) n k) → S'.1 8 = nI (rn (pSm B N) n k - a) → S'.1 6 = nI (if 8 < rn (pSm B N) n k - a then 1 else 2) → (∀ j, j < rn (pSm B N) n k - a → j < 8 → S'.2.2.1 12 j = nI (B (a + j))) → K (mh m A S' ρ)) →
    ∃ n', Z_X12_next_67 l G (d + 1) K n' m (nI k) (mh m A S ρ) := by
  intro n
  induction n with
  | zero =>
    intro k S hn ha hkN ht h8 hl hK
    exact z_m_small0 hA ha hkN ht h8 hl (by simp [pSm]; omega) hK
  | succ n ih =>
    intro k S hn ha hkN ht h8 hl hK
    cases hp : pSm B N k with
    | false =>
      simp only [rn, hp] at hK
      exact z_m_small0 hA ha hkN ht h8 hl hp hK
    | true =>
      simp only [rn, hp, if_true] at hK
      have hkN' : k < N := by simp [pSm] at hp; exact hp.1
      have hN := ht.1
      have hlk : lk B N k = nI (B k) := if_pos hkN'
      have e1 : nI k + 1 = nI (k + 1) := nt_add k 1
      have e2 : nI (k - a) + 1 = nI (k + 1 - a) := by rw [show k + 1 - a = k - a + 1 by omega]; exact nt_add _ 1
      by_cases h9 : 8 ≤ k - a
      · obtain ⟨n', hz⟩ := ih (k + 1) (seti S 8 (nI (k + 1 - a))) (by omega) (by omega) (by omega) (ht.sm (is := [8]) (bs := []) (ar := []) (Sm.i Sm.rf (by decide)) (by decide) (by decide)) rfl (fun j h1 h2 => hl j (by omega) h2) (fun S' hS => hK S' (Sm.tr (Sm.i Sm.rf (by decide)) hS))
        refine ⟨n' + 1, ?_⟩
        simp only [Z_X12_next_67, F_X12_next_67, F_X12_next_101]
        refine s_X12_look hA (by omega) ht ?_
        refine s_X12_isSmall ?_
        rw [lk_sm ht.2.2.1, hp]
        refine ⟨fun hc => absurd hc (by decide), fun _ => ?_⟩
        simp only [mfI_0, mpI_0, mfN_1, mfI_2, mpI_2, mfI_3, mpI_3, mfI_4, mpI_4, mfI_5, mpI_5, mfI_6, mpI_6, mfI_7, mpI_7, mfI_8, mpI_8, mfI_9, mpI_9, mfI_10, mpI_10, mfI_11, mpI_11, mfN_12, mfZ_13, mpZ_13, mfZ_14, mpZ_14, mfN_15, mfN_16, mfN_17, mfN_18, mfN_19, mfN_20, mfI_21, mpI_21, mfI_22, mpI_22, mfN_23, mfN_24, mfN_25, mfN_26, mfN_27, mfN_28, mfN_29, mfI_30, mpI_30, mfN_31, mfN_32, mfN_33, mfN_34, mfN_35, mfN_36, mfN_37, mfI_38, mpI_38, mfN_39, mfI_40, mpI_40, mfI_41, mpI_41, mgI_1 hA, msI_1 hA, mgI_12 hA, msI_12 hA, mgI_15 hA, msI_15 hA, mgI_16 hA, msI_16 hA, mgI_17 hA, msI_17 hA, mgI_18 hA, msI_18 hA, mgI_19 hA, msI_19 hA, mgI_20 hA, msI_20 hA, mgI_23 hA, msI_23 hA, mgI_24 hA, msI_24 hA, mgI_25 hA, msI_25 hA, mgI_26 hA, msI_26 hA, mgI_27 hA, msI_27 hA, mgI_28 hA, msI_28 hA, mgI_29 hA, msI_29 hA, mgI_31 hA, msI_31 hA, mgI_32 hA, msI_32 hA, mgI_33 hA, msI_33 hA, mgI_34 hA, msI_34 hA, mgI_35 hA, msI_35 hA, mgI_36 hA, msI_36 hA, mgI_39 hA, msI_39 hA, mgJ hA, msJ hA, ms_i, ms_i2, ms_b1, ms_b, ms_b2, ms_a1, ms_a2, ms_a, ms_a3, ms_j1, ms_j2, ms_j3, ms_j, ↓reduceIte, Nat.reduceEqDiff, h8, e1, e2]
        rw [show (8 : Int32) = nI 8 from rfl, nt_le (by decide) (by omega)]
        exact ⟨fun _ => hz, fun hc => absurd h9 hc⟩
      · obtain ⟨n', hz⟩ := ih (k + 1) (seti (seta S 12 (up_ (S.2.2.1 12) (k - a) (nI (B k)))) 8 (nI (k + 1 - a))) (by omega) (by omega) (by omega) (ht.sm (is := [8]) (bs := []) (ar := [12]) (Sm.i (Sm.a Sm.rf (by decide)) (by decide)) (by decide) (by decide)) rfl
          (fun j h1 h2 => by
            show up_ (S.2.2.1 12) (k - a) (nI (B k)) j = _
            by_cases e : j = k - a
            · rw [e, up_eq, show a + (k - a) = k by omega]
            · rw [up_ne e]; exact hl j (by omega) h2) (fun S' hS => hK S' (Sm.tr (Sm.i (Sm.a Sm.rf (by decide)) (by decide)) hS))
        refine ⟨n' + 1, ?_⟩
        simp only [Z_X12_next_67, F_X12_next_67, F_X12_next_101]
        refine s_X12_look hA (by omega) ht ?_
        refine s_X12_isSmall ?_
        rw [lk_sm ht.2.2.1, hp]
        refine ⟨fun hc => absurd hc (by decide), fun _ => ?_⟩
        simp only [mfI_0, mpI_0, mfN_1, mfI_2, mpI_2, mfI_3, mpI_3, mfI_4, mpI_4, mfI_5, mpI_5, mfI_6, mpI_6, mfI_7, mpI_7, mfI_8, mpI_8, mfI_9, mpI_9, mfI_10, mpI_10, mfI_11, mpI_11, mfN_12, mfZ_13, mpZ_13, mfZ_14, mpZ_14, mfN_15, mfN_16, mfN_17, mfN_18, mfN_19, mfN_20, mfI_21, mpI_21, mfI_22, mpI_22, mfN_23, mfN_24, mfN_25, mfN_26, mfN_27, mfN_28, mfN_29, mfI_30, mpI_30, mfN_31, mfN_32, mfN_33, mfN_34, mfN_35, mfN_36, mfN_37, mfI_38, mpI_38, mfN_39, mfI_40, mpI_40, mfI_41, mpI_41, mgI_1 hA, msI_1 hA, mgI_12 hA, msI_12 hA, mgI_15 hA, msI_15 hA, mgI_16 hA, msI_16 hA, mgI_17 hA, msI_17 hA, mgI_18 hA, msI_18 hA, mgI_19 hA, msI_19 hA, mgI_20 hA, msI_20 hA, mgI_23 hA, msI_23 hA, mgI_24 hA, msI_24 hA, mgI_25 hA, msI_25 hA, mgI_26 hA, msI_26 hA, mgI_27 hA, msI_27 hA, mgI_28 hA, msI_28 hA, mgI_29 hA, msI_29 hA, mgI_31 hA, msI_31 hA, mgI_32 hA, msI_32 hA, mgI_33 hA, msI_33 hA, mgI_34 hA, msI_34 hA, mgI_35 hA, msI_35 hA, mgI_36 hA, msI_36 hA, mgI_39 hA, msI_39 hA, mgJ hA, msJ hA, ms_i, ms_i2, ms_b1, ms_b, ms_b2, ms_a1, ms_a2, ms_a, ms_a3, ms_j1, ms_j2, ms_j3, ms_j, ↓reduceIte, Nat.reduceEqDiff, h8]
        rw [show (8 : Int32) = nI 8 from rfl, nt_le (by decide) (by omega)]
        refine ⟨fun hc => absurd hc h9, fun _ => ?_⟩
        refine s_X12_look hA (by omega) ht ?_
        simp only [mfI_0, mpI_0, mfN_1, mfI_2, mpI_2, mfI_3, mpI_3, mfI_4, mpI_4, mfI_5, mpI_5, mfI_6, mpI_6, mfI_7, mpI_7, mfI_8, mpI_8, mfI_9, mpI_9, mfI_10, mpI_10, mfI_11, mpI_11, mfN_12, mfZ_13, mpZ_13, mfZ_14, mpZ_14, mfN_15, mfN_16, mfN_17, mfN_18, mfN_19, mfN_20, mfI_21, mpI_21, mfI_22, mpI_22, mfN_23, mfN_24, mfN_25, mfN_26, mfN_27, mfN_28, mfN_29, mfI_30, mpI_30, mfN_31, mfN_32, mfN_33, mfN_34, mfN_35, mfN_36, mfN_37, mfI_38, mpI_38, mfN_39, mfI_40, mpI_40, mfI_41, mpI_41, mgI_1 hA, msI_1 hA, mgI_12 hA, msI_12 hA, mgI_15 hA, msI_15 hA, mgI_16 hA, msI_16 hA, mgI_17 hA, msI_17 hA, mgI_18 hA, msI_18 hA, mgI_19 hA, msI_19 hA, mgI_20 hA, msI_20 hA, mgI_23 hA, msI_23 hA, mgI_24 hA, msI_24 hA, mgI_25 hA, msI_25 hA, mgI_26 hA, msI_26 hA, mgI_27 hA, msI_27 hA, mgI_28 hA, msI_28 hA, mgI_29 hA, msI_29 hA, mgI_31 hA, msI_31 hA, mgI_32 hA, msI_32 hA, mgI_33 hA, msI_33 hA, mgI_34 hA, msI_34 hA, mgI_35 hA, msI_35 hA, mgI_36 hA, msI_36 hA, mgI_39 hA, msI_39 hA, mgJ hA, msJ hA, ms_i, ms_i2, ms_b1, ms_b, ms_b2, ms_a1, ms_a2, ms_a, ms_a3, ms_j1, ms_j2, ms_j3, ms_j, ↓reduceIte, Nat.reduceEqDiff, h8, e1, e2, nt_in (show k - a < 2 ^ 31 by omega), nI_clamp (show k - a < 2 ^ 31 by omega), hlk]
        exact ⟨by omega, hz⟩
theorem dg_step {a k : Nat} (hak : a ≤ k) (h : pDg B N k = true) (hb : ∀ j, B j < 256) (h3 : k - a < 3) : 10 * nI (dg B a (k - a)) + nI (B k) - 48 = nI (dg B a (k + 1 - a)) := by
  have h4 := dg_lt (a := a) hb (k - a) (by omega)
  have h5 : 48 ≤ B k := by simp [pDg] at h; exact h.2.1
  have h6 := hb k
  rw [show (10 : Int32) = nI 10 from rfl, show (48 : Int32) = nI 48 from rfl, nt_mul, nt_add, nt_sub (by omega) (by omega), show k + 1 - a = (k - a) + 1 by omega]
  simp only [dg]
  rw [show a + (k - a) = k by omega]
  congr 1
  omega
theorem z_m_digit0 (hA : okA m A) {a : Nat} {k : Nat} {S : MS} (ha : a ≤ k) (hkN : k ≤ N) (ht : TXT B N S) (h7 : k - a ≤ 3 → S.1 7 = nI (dg B a (k - a))) (hp : pDg B N k = false)
    (hK : ∀ S' : MS, Sm [5, 6, 7] [] [] S S' → S'.1 5 = nI k → (k - a ≤ 3 → S'.1 7 = nI (dg B a (k - a))) → S'.1 6 = nI (if 3 < k - a then 1 else 3) → K (mh m A S' ρ)) :
    ∃ n', Z_X12_next_152 l G (d + 1) K n' m (nI k) (nI (k - a)) (mh m A S ρ) := by
  have hN := ht.1
  refine ⟨1, ?_⟩
  simp only [Z_X12_next_152, F_X12_next_152, F_X12_next_213, F_X12_next_247]
  refine s_X12_look hA (by omega) ht ?_
  refine s_X12_isDigit ?_
  rw [lk_dg ht.2.2.1, hp]
  refine ⟨fun _ => ?_, fun hc => absurd hc (by decide)⟩
  simp only [mfI_0, mpI_0, mfN_1, mfI_2, mpI_2, mfI_3, mpI_3, mfI_4, mpI_4, mfI_5, mpI_5, mfI_6, mpI_6, mfI_7, mpI_7, mfI_8, mpI_8, mfI_9, mpI_9, mfI_10, mpI_10, mfI_11, mpI_11, mfN_12, mfZ_13, mpZ_13, mfZ_14, mpZ_14, mfN_15, mfN_16, mfN_17, mfN_18, mfN_19, mfN_20, mfI_21, mpI_21, mfI_22, mpI_22, mfN_23, mfN_24, mfN_25, mfN_26, mfN_27, mfN_28, mfN_29, mfI_30, mpI_30, mfN_31, mfN_32, mfN_33, mfN_34, mfN_35, mfN_36, mfN_37, mfI_38, mpI_38, mfN_39, mfI_40, mpI_40, mfI_41, mpI_41, mgI_1 hA, msI_1 hA, mgI_12 hA, msI_12 hA, mgI_15 hA, msI_15 hA, mgI_16 hA, msI_16 hA, mgI_17 hA, msI_17 hA, mgI_18 hA, msI_18 hA, mgI_19 hA, msI_19 hA, mgI_20 hA, msI_20 hA, mgI_23 hA, msI_23 hA, mgI_24 hA, msI_24 hA, mgI_25 hA, msI_25 hA, mgI_26 hA, msI_26 hA, mgI_27 hA, msI_27 hA, mgI_28 hA, msI_28 hA, mgI_29 hA, msI_29 hA, mgI_31 hA, msI_31 hA, mgI_32 hA, msI_32 hA, mgI_33 hA, msI_33 hA, mgI_34 hA, msI_34 hA, mgI_35 hA, msI_35 hA, mgI_36 hA, msI_36 hA, mgI_39 hA, msI_39 hA, mgJ hA, msJ hA, ms_i, ms_i2, ms_b1, ms_b, ms_b2, ms_a1, ms_a2, ms_a, ms_a3, ms_j1, ms_j2, ms_j3, ms_j, ↓reduceIte, Nat.reduceEqDiff]
  rw [show (3 : Int32) = nI 3 from rfl, nt_le (by omega) (by decide)]
  refine ⟨fun hc => ?_, fun hc => ?_⟩
  · refine hK _ (Sm.i (Sm.i Sm.rf (by decide)) (by decide)) rfl h7 ?_
    rw [if_neg (by omega)]; rfl
  · refine hK _ (Sm.i (Sm.i Sm.rf (by decide)) (by decide)) rfl h7 ?_
    rw [if_pos (by omega)]; rfl
theorem z_m_digit (hA : okA m A) {a : Nat} : ∀ n k (S : MS), N - k ≤ n → a ≤ k → k ≤ N → TXT B N S → (k - a ≤ 3 → S.1 7 = nI (dg B a (k - a))) →
    (∀ S' : MS, Sm [5, 6, 7] [] [] S S' → S'.1 5 = nI (rn (pDg B N) n k) → (rn (pDg B N) n k - a ≤ 3 → S'.1 7 = nI (dg B a (rn (pDg B N) n k - a))) → S'.1 6 = nI (if 3 < rn (pDg B N) n k - a then 1 else 3) → K (mh m A S' ρ)) →
    ∃ n', Z_X12_next_152 l G (d + 1) K n' m (nI k) (nI (k - a)) (mh m A S ρ) := by
  intro n
  induction n with
  | zero =>
    intro k S hn ha hkN ht h7 hK
    exact z_m_digit0 hA ha hkN ht h7 (by simp [pDg]; omega) hK
  | succ n ih =>
    intro k S hn ha hkN ht h7 hK
    cases hp : pDg B N k with
    | false =>
      simp only [rn, hp] at hK
      exact z_m_digit0 hA ha hkN ht h7 hp hK
    | true =>
      simp only [rn, hp, if_true] at hK
      have hkN' : k < N := by simp [pDg] at hp; exact hp.1
      have hN := ht.1
      have hlk : lk B N k = nI (B k) := if_pos hkN'
      have e1 : nI k + 1 = nI (k + 1) := nt_add k 1
      have e2 : nI (k - a) + 1 = nI (k + 1 - a) := by rw [show k + 1 - a = k - a + 1 by omega]; exact nt_add _ 1
      by_cases h9 : 3 ≤ k - a
      · obtain ⟨n', hz⟩ := ih (k + 1) S (by omega) (by omega) (by omega) ht (fun h => by omega) hK
        refine ⟨n' + 1, ?_⟩
        simp only [Z_X12_next_152, F_X12_next_152, F_X12_next_188]
        refine s_X12_look hA (by omega) ht ?_
        refine s_X12_isDigit ?_
        rw [lk_dg ht.2.2.1, hp]
        refine ⟨fun hc => absurd hc (by decide), fun _ => ?_⟩
        rw [show (3 : Int32) = nI 3 from rfl, nt_le (by decide) (by omega), e1, e2]
        exact ⟨fun _ => hz, fun hc => absurd h9 hc⟩
      · obtain ⟨n', hz⟩ := ih (k + 1) (seti S 7 (nI (dg B a (k + 1 - a)))) (by omega) (by omega) (by omega) (ht.sm (is := [7]) (bs := []) (ar := []) (Sm.i Sm.rf (by decide)) (by decide) (by decide)) (fun _ => rfl) (fun S' hS => hK S' (Sm.tr (Sm.i Sm.rf (by decide)) hS))
        refine ⟨n' + 1, ?_⟩
        simp only [Z_X12_next_152, F_X12_next_152, F_X12_next_188]
        refine s_X12_look hA (by omega) ht ?_
        refine s_X12_isDigit ?_
        rw [lk_dg ht.2.2.1, hp]
        refine ⟨fun hc => absurd hc (by decide), fun _ => ?_⟩
        rw [show (3 : Int32) = nI 3 from rfl, nt_le (by decide) (by omega), e1, e2]
        refine ⟨fun hc => absurd hc h9, fun _ => ?_⟩
        simp only [mfI_0, mpI_0, mfN_1, mfI_2, mpI_2, mfI_3, mpI_3, mfI_4, mpI_4, mfI_5, mpI_5, mfI_6, mpI_6, mfI_7, mpI_7, mfI_8, mpI_8, mfI_9, mpI_9, mfI_10, mpI_10, mfI_11, mpI_11, mfN_12, mfZ_13, mpZ_13, mfZ_14, mpZ_14, mfN_15, mfN_16, mfN_17, mfN_18, mfN_19, mfN_20, mfI_21, mpI_21, mfI_22, mpI_22, mfN_23, mfN_24, mfN_25, mfN_26, mfN_27, mfN_28, mfN_29, mfI_30, mpI_30, mfN_31, mfN_32, mfN_33, mfN_34, mfN_35, mfN_36, mfN_37, mfI_38, mpI_38, mfN_39, mfI_40, mpI_40, mfI_41, mpI_41, h7 (by omega)]
        refine s_X12_look hA (by omega) ht ?_
        simp only [mfI_0, mpI_0, mfN_1, mfI_2, mpI_2, mfI_3, mpI_3, mfI_4, mpI_4, mfI_5, mpI_5, mfI_6, mpI_6, mfI_7, mpI_7, mfI_8, mpI_8, mfI_9, mpI_9, mfI_10, mpI_10, mfI_11, mpI_11, mfN_12, mfZ_13, mpZ_13, mfZ_14, mpZ_14, mfN_15, mfN_16, mfN_17, mfN_18, mfN_19, mfN_20, mfI_21, mpI_21, mfI_22, mpI_22, mfN_23, mfN_24, mfN_25, mfN_26, mfN_27, mfN_28, mfN_29, mfI_30, mpI_30, mfN_31, mfN_32, mfN_33, mfN_34, mfN_35, mfN_36, mfN_37, mfI_38, mpI_38, mfN_39, mfI_40, mpI_40, mfI_41, mpI_41, hlk]
        rw [dg_step ha hp ht.2.2.1 (by omega)]
        exact hz
theorem pSm_len {a : Nat} (h : pSm B N a = true) (n : Nat) (hn : N - a ≤ n) : a < rn (pSm B N) n a ∧ rn (pSm B N) n a ≤ N := by
  have h1 : a < N := by simp [pSm] at h; exact h.1
  cases n with
  | zero => omega
  | succ n =>
    simp only [rn, h, if_true]
    have h2 := rn_le (pSm B N) n (a + 1)
    refine ⟨by omega, ?_⟩
    apply Nat.le_of_not_lt
    intro h3
    have h4 := rn_in (pSm B N) n (a + 1) N (by omega) h3
    simp [pSm] at h4
theorem pDg_len {a : Nat} (h : pDg B N a = true) (n : Nat) (hn : N - a ≤ n) : a < rn (pDg B N) n a ∧ rn (pDg B N) n a ≤ N := by
  have h1 : a < N := by simp [pDg] at h; exact h.1
  cases n with
  | zero => omega
  | succ n =>
    simp only [rn, h, if_true]
    have h2 := rn_le (pDg B N) n (a + 1)
    refine ⟨by omega, ?_⟩
    apply Nat.le_of_not_lt
    intro h3
    have h4 := rn_in (pDg B N) n (a + 1) N (by omega) h3
    simp [pDg] at h4
theorem tA_le {k : Nat} (hk : k ≤ N) : k ≤ tA B N k ∧ tA B N k ≤ N := by
  unfold tA
  refine ⟨(rn_le _ _ _).1, ?_⟩
  apply Nat.le_of_not_lt
  intro h3
  have h4 := rn_in (pSp B N) _ k N hk h3
  simp [pSp] at h4
theorem eE_le {a : Nat} (hk : a ≤ N) : a ≤ eE B N a ∧ eE B N a ≤ N := by
  unfold eE
  split
  · omega
  · split
    · have := pSm_len (B := B) (N := N) (by assumption) (N - a) (Nat.le_refl _); omega
    · split
      · have := pDg_len (B := B) (N := N) (by assumption) (N - a) (Nat.le_refl _); omega
      · omega
theorem tE_le {k : Nat} (hk : k ≤ N) : tA B N k ≤ tE B N k ∧ tE B N k ≤ N := eE_le (tA_le hk).2
theorem eE_sm {a : Nat} (h : pSm B N a = true) : eE B N a = rn (pSm B N) (N - a) a := by
  have h1 : a < N := by simp [pSm] at h; exact h.1
  unfold eE
  rw [if_neg (by omega), if_pos h]
theorem pDg_sm {a : Nat} (h : pDg B N a = true) : pSm B N a = false := by
  simp [pDg] at h
  simp [pSm]
  omega
theorem eE_dg {a : Nat} (h : pDg B N a = true) : eE B N a = rn (pDg B N) (N - a) a := by
  have h1 : a < N := by simp [pDg] at h; exact h.1
  unfold eE
  rw [if_neg (by omega), if_neg (by simp [pDg_sm h]), if_pos h]
theorem z_m_sp0 (hA : okA m A) {a : Nat} {S : MS} (haN : a ≤ N) (ht : TXT B N S) (hp : pSp B N a = false) (hK : ∀ S' : MS, Sm [4, 5, 6, 7, 8] [] [12] S S' → TkA B N a S' → K (mh m A S' ρ)) :
    ∃ n', Z_X12_next_5 l G (d + 1) K n' m (nI a) (mh m A S ρ) := by
  have hN := ht.1
  have hb := ht.2.2.1
  have hT : TXT B N (seti (seti (seti S 4 (nI a)) 8 0) 7 0) := ht.sm (is := [4, 8, 7]) (bs := []) (ar := []) (Sm.i (Sm.i (Sm.i Sm.rf (by decide)) (by decide)) (by decide)) (by decide) (by decide)
  refine ⟨1, ?_⟩
  simp only [Z_X12_next_5, F_X12_next_5, F_X12_next_239, F_X12_next_244, F_X12_next_247]
  refine s_X12_look hA (by omega) ht ?_
  rw [lk_sp hb, hp]
  refine ⟨fun _ => ?_, fun hc => absurd hc (by decide)⟩
  simp only [mfI_0, mpI_0, mfN_1, mfI_2, mpI_2, mfI_3, mpI_3, mfI_4, mpI_4, mfI_5, mpI_5, mfI_6, mpI_6, mfI_7, mpI_7, mfI_8, mpI_8, mfI_9, mpI_9, mfI_10, mpI_10, mfI_11, mpI_11, mfN_12, mfZ_13, mpZ_13, mfZ_14, mpZ_14, mfN_15, mfN_16, mfN_17, mfN_18, mfN_19, mfN_20, mfI_21, mpI_21, mfI_22, mpI_22, mfN_23, mfN_24, mfN_25, mfN_26, mfN_27, mfN_28, mfN_29, mfI_30, mpI_30, mfN_31, mfN_32, mfN_33, mfN_34, mfN_35, mfN_36, mfN_37, mfI_38, mpI_38, mfN_39, mfI_40, mpI_40, mfI_41, mpI_41]
  refine s_X12_look hA (by omega) (ht.sm (is := [4]) (bs := []) (ar := []) (Sm.i Sm.rf (by decide)) (by decide) (by decide)) ?_
  simp only [mfI_0, mpI_0, mfN_1, mfI_2, mpI_2, mfI_3, mpI_3, mfI_4, mpI_4, mfI_5, mpI_5, mfI_6, mpI_6, mfI_7, mpI_7, mfI_8, mpI_8, mfI_9, mpI_9, mfI_10, mpI_10, mfI_11, mpI_11, mfN_12, mfZ_13, mpZ_13, mfZ_14, mpZ_14, mfN_15, mfN_16, mfN_17, mfN_18, mfN_19, mfN_20, mfI_21, mpI_21, mfI_22, mpI_22, mfN_23, mfN_24, mfN_25, mfN_26, mfN_27, mfN_28, mfN_29, mfI_30, mpI_30, mfN_31, mfN_32, mfN_33, mfN_34, mfN_35, mfN_36, mfN_37, mfI_38, mpI_38, mfN_39, mfI_40, mpI_40, mfI_41, mpI_41]
  have Sm3 : Sm [4, 5, 6, 7, 8] [] [12] S (seti (seti (seti S 4 (nI a)) 8 0) 7 0) := Sm.i (Sm.i (Sm.i Sm.rf (by decide)) (by decide)) (by decide)
  rcases Nat.lt_or_ge a N with haN' | haN'
  · have hba := hb a
    have hlk : lk B N a = nI (B a) := if_pos haN'
    have hne : ¬ lk B N a = -1 := by
      rw [hlk]
      intro e
      have := congrArg Int32.toInt e
      rw [nI_toInt (by omega)] at this
      have h2 : (-1 : Int32).toInt = -1 := by decide
      omega
    refine ⟨fun _ => ?_, fun hc => absurd hc hne⟩
    refine s_X12_isSmall ?_
    rw [lk_sm hb]
    refine ⟨fun hs => ?_, fun hs => ?_⟩
    · refine s_X12_isDigit ?_
      rw [lk_dg hb]
      refine ⟨fun hd => ?_, fun hd => ?_⟩
      · have he : eE B N a = a + 1 := by unfold eE; rw [if_neg (by omega), if_neg (by simp [hs]), if_neg (by simp [hd])]
        have hk0 : eK B N a = if B a = 59 then 59 else if B a = 44 then 44 else 1 := by unfold eK; rw [if_neg (by omega), if_neg (by simp [hs]), if_neg (by simp [hd])]
        simp only [mfI_0, mpI_0, mfN_1, mfI_2, mpI_2, mfI_3, mpI_3, mfI_4, mpI_4, mfI_5, mpI_5, mfI_6, mpI_6, mfI_7, mpI_7, mfI_8, mpI_8, mfI_9, mpI_9, mfI_10, mpI_10, mfI_11, mpI_11, mfN_12, mfZ_13, mpZ_13, mfZ_14, mpZ_14, mfN_15, mfN_16, mfN_17, mfN_18, mfN_19, mfN_20, mfI_21, mpI_21, mfI_22, mpI_22, mfN_23, mfN_24, mfN_25, mfN_26, mfN_27, mfN_28, mfN_29, mfI_30, mpI_30, mfN_31, mfN_32, mfN_33, mfN_34, mfN_35, mfN_36, mfN_37, mfI_38, mpI_38, mfN_39, mfI_40, mpI_40, mfI_41, mpI_41, hlk]
        rw [show (59 : Int32) = nI 59 from rfl, show (44 : Int32) = nI 44 from rfl, nt_eq (by omega) (by decide), nt_eq (by omega) (by decide)]
        refine ⟨fun h1 => ?_, fun h1 => ⟨fun h2 => ?_, fun h2 => ?_⟩⟩
        · refine hK _ (Sm.i (Sm.i Sm3 (by decide)) (by decide)) ⟨rfl, ?_, ?_, fun h => ?_, fun h => ?_⟩
          · rw [he]; exact nt_add _ 1
          · rw [hk0, if_pos h1, h1]; rfl
          · rw [hk0, if_pos h1] at h; omega
          · rw [hk0, if_pos h1] at h; omega
        · refine hK _ (Sm.i (Sm.i Sm3 (by decide)) (by decide)) ⟨rfl, ?_, ?_, fun h => ?_, fun h => ?_⟩
          · rw [he]; exact nt_add _ 1
          · rw [hk0, if_neg h1, if_neg h2]; rfl
          · rw [hk0, if_neg h1, if_neg h2] at h; omega
          · rw [hk0, if_neg h1, if_neg h2] at h; omega
        · refine hK _ (Sm.i (Sm.i Sm3 (by decide)) (by decide)) ⟨rfl, ?_, ?_, fun h => ?_, fun h => ?_⟩
          · rw [he]; exact nt_add _ 1
          · rw [hk0, if_neg h1, if_pos h2, h2]; rfl
          · rw [hk0, if_neg h1, if_pos h2] at h; omega
          · rw [hk0, if_neg h1, if_pos h2] at h; omega
      · have he := eE_dg hd
        have hk0 : eK B N a = if 3 < eE B N a - a then 1 else 3 := by unfold eK; rw [if_neg (by omega), if_neg (by simp [hs]), if_pos hd]
        have h0 := z_m_digit (l := l) (G := G) (d := d) (ρ := ρ) (K := K) hA (a := a) (N - a) a _ (Nat.le_refl _) (Nat.le_refl _) haN hT (fun _ => by rw [Nat.sub_self]; rfl) (fun S' hS h5 h7 h6 => hK S' (Sm.tr Sm3 (hS.mo (by decide) (by decide) (by decide))) ⟨(hS.1 4 (by decide)), by rw [h5, he], by rw [h6, hk0, he], fun h => by rw [hk0] at h; split at h <;> omega, fun h => by rw [he]; exact h7 (by rw [hk0, he] at h; split at h <;> omega)⟩)
        rw [Nat.sub_self] at h0
        exact h0
    · have he := eE_sm hs
      have hk0 : eK B N a = if 8 < eE B N a - a then 1 else 2 := by unfold eK; rw [if_neg (by omega), if_pos hs]
      have h0 := z_m_small (l := l) (G := G) (d := d) (ρ := ρ) (K := K) hA (a := a) (N - a) a _ (Nat.le_refl _) (Nat.le_refl _) haN hT (by rw [Nat.sub_self]; rfl) (fun j h1 => by omega) (fun S' hS h5 h8 h6 hl => hK S' (Sm.tr Sm3 (hS.mo (by decide) (by decide) (by decide))) ⟨(hS.1 4 (by decide)), by rw [h5, he], by rw [h6, hk0, he], fun h => ⟨by rw [h8, he], fun j hj => hl j (by rw [← he]; exact hj) (by rw [hk0] at h; split at h <;> omega)⟩, fun h => by rw [hk0] at h; split at h <;> omega⟩)
      exact h0
  · have hlk : lk B N a = -1 := if_neg (by omega)
    refine ⟨fun hc => absurd hlk hc, fun _ => ?_⟩
    have he : eE B N a = a := if_pos haN'
    have hk0 : eK B N a = 0 := if_pos haN'
    refine hK _ (Sm.i (Sm.i Sm3 (by decide)) (by decide)) ⟨rfl, by rw [he]; rfl, by rw [hk0]; rfl, fun h => by rw [hk0] at h; omega, fun h => by rw [hk0] at h; omega⟩
theorem z_m_sp (hA : okA m A) : ∀ n k (S : MS), N - k ≤ n → k ≤ N → TXT B N S → (∀ S' : MS, Sm [4, 5, 6, 7, 8] [] [12] S S' → TkA B N (rn (pSp B N) n k) S' → K (mh m A S' ρ)) →
    ∃ n', Z_X12_next_5 l G (d + 1) K n' m (nI k) (mh m A S ρ) := by
  intro n
  induction n with
  | zero =>
    intro k S hn hkN ht hK
    exact z_m_sp0 hA hkN ht (by simp [pSp]; omega) hK
  | succ n ih =>
    intro k S hn hkN ht hK
    cases hp : pSp B N k with
    | false =>
      simp only [rn, hp] at hK
      exact z_m_sp0 hA hkN ht hp hK
    | true =>
      simp only [rn, hp, if_true] at hK
      have hkN' : k < N := by simp [pSp] at hp; exact hp.1
      have hN := ht.1
      obtain ⟨n', hz⟩ := ih (k + 1) S (by omega) (by omega) ht hK
      refine ⟨n' + 1, ?_⟩
      simp only [Z_X12_next_5, F_X12_next_5]
      refine s_X12_look hA (by omega) ht ?_
      rw [lk_sp ht.2.2.1, hp]
      refine ⟨fun hc => absurd rfl hc, fun _ => ?_⟩
      rw [show nI k + 1 = nI (k + 1) from nt_add k 1]
      exact hz
theorem s_X12_next (hA : okA m A) {k : Nat} {S : MS} (hk : k ≤ N) (h5 : S.1 5 = nI k) (ht : TXT B N S) (hK : ∀ S' : MS, Sm [4, 5, 6, 7, 8] [] [12] S S' → TkA B N (tA B N k) S' → K (mh m A S' ρ)) : C_X12_next l G (d + 2) m (mh m A S ρ) K := by
  refine m_X12_next rv_m ?_
  simp only [F_X12_next, mfI_0, mpI_0, mfN_1, mfI_2, mpI_2, mfI_3, mpI_3, mfI_4, mpI_4, mfI_5, mpI_5, mfI_6, mpI_6, mfI_7, mpI_7, mfI_8, mpI_8, mfI_9, mpI_9, mfI_10, mpI_10, mfI_11, mpI_11, mfN_12, mfZ_13, mpZ_13, mfZ_14, mpZ_14, mfN_15, mfN_16, mfN_17, mfN_18, mfN_19, mfN_20, mfI_21, mpI_21, mfI_22, mpI_22, mfN_23, mfN_24, mfN_25, mfN_26, mfN_27, mfN_28, mfN_29, mfI_30, mpI_30, mfN_31, mfN_32, mfN_33, mfN_34, mfN_35, mfN_36, mfN_37, mfI_38, mpI_38, mfN_39, mfI_40, mpI_40, mfI_41, mpI_41, h5]
  exact z_m_sp hA _ k S (Nat.le_refl _) hk ht hK
end LEX
