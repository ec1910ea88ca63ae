/-! THE TABLE as a value; the model's primitives of reading -/
/-- a board: wide, high, first square, name -/
abbrev BD : Type := Nat × Nat × Nat × List Nat
/-- a piece: kind, wide, high, turns, owner (0 anyone, 1 first, 2 second), name -/
abbrev PC : Type := Nat × Nat × Nat × Bool × Nat × List Nat
/-- law told, wins, apart; boards; pieces; jugs -/
abbrev TB : Type := (Bool × Bool × Bool) × List BD × List PC × Nat
def nsq (bs : List BD) : Nat := (bs.map fun b => b.1 * b.2.1).sum
def cnt (n : Nat) : Nat := fb_ct (fun k => n.testBit k) 14
def nms (T : TB) (n : Nat) : Option (List Nat) := if n < 3 then (T.2.1[n]?).map (fun b => b.2.2.2) else (T.2.2.1[n - 3]?).map (fun p => p.2.2.2.2.2)
/-- the model's array f holds T -/
def TR (T : TB) (f : Nat → Int32) : Prop :=
  (f 0 = bi T.1.1 ∧ f 1 = bi T.1.2.1 ∧ f 2 = bi T.1.2.2) ∧ (f 3 = nI T.2.1.length ∧ f 4 = nI T.2.2.1.length ∧ f 5 = nI (nsq T.2.1)) ∧ (f 6 = nI (cnt T.2.2.2) ∧ f 16 = nI T.2.2.2) ∧
  (∀ (k : Nat) (b : BD), T.2.1[k]? = some b → f (7 + k) = nI b.1 ∧ f (10 + k) = nI b.2.1 ∧ f (13 + k) = nI b.2.2.1) ∧
  (∀ (k : Nat) (p : PC), T.2.2.1[k]? = some p → f (17 + k) = nI p.1 ∧ f (21 + k) = nI p.2.1 ∧ f (25 + k) = nI p.2.2.1 ∧ f (29 + k) = bi p.2.2.2.1 ∧ f (33 + k) = nI p.2.2.2.2.1) ∧
  (∀ (n : Nat) (w : List Nat), nms T n = some w → f (37 + n) = nI w.length ∧ ∀ i, i < w.length → f (44 + 8 * n + i) = nI (w.getD i 0)) ∧ ∀ n : Nat, n < 7 → nms T n = none → f (37 + n) = 0
/-- a name -/
def NM (w : List Nat) : Prop := 1 ≤ w.length ∧ w.length ≤ 8 ∧ ∀ c ∈ w, 97 ≤ c ∧ c ≤ 122
def WFB (bs : List BD) : Prop := bs.length ≤ 3 ∧ nsq bs ≤ 14 ∧ ∀ (k : Nat) (b : BD), bs[k]? = some b → 1 ≤ b.1 ∧ b.1 ≤ 8 ∧ 1 ≤ b.2.1 ∧ b.2.1 ≤ 4 ∧ b.2.2.1 = nsq (bs.take k) ∧ NM b.2.2.2
def WFP (ps : List PC) : Prop := ps.length ≤ 4 ∧ ∀ (k : Nat) (p : PC), ps[k]? = some p → (p.1 = 0 ∧ p.2.1 = 1 ∧ p.2.2.1 = 1 ∨ p.1 = 1 ∧ (1 ≤ p.2.1 ∧ p.2.1 ≤ 4) ∧ 1 ≤ p.2.2.1 ∧ p.2.2.1 ≤ 4 ∨ p.1 = 2 ∧ (2 ≤ p.2.1 ∧ p.2.1 ≤ 3) ∧ 2 ≤ p.2.2.1 ∧ p.2.2.1 ≤ 3) ∧ p.2.2.2.2.1 ≤ 2 ∧ NM p.2.2.2.2.2
def WFT (T : TB) : Prop := WFB T.2.1 ∧ WFP T.2.2.1 ∧ T.2.2.2 < 2 ^ nsq T.2.1
theorem nms_NM {T : TB} (h : WFT T) {n : Nat} {w : List Nat} (hn : nms T n = some w) : NM w ∧ n < 7 := by
  unfold nms at hn
  split at hn
  · rw [Option.map_eq_some_iff] at hn
    obtain ⟨b, h1, rfl⟩ := hn
    exact ⟨(h.1.2.2 n b h1).2.2.2.2.2, by omega⟩
  · rw [Option.map_eq_some_iff] at hn
    obtain ⟨b, h1, rfl⟩ := hn
    refine ⟨(h.2.1.2 _ b h1).2.2, ?_⟩
    have := (List.getElem?_eq_some_iff.mp h1).1
    have := h.2.1.1
    omega
/-- the first name that w is -/
def findN (T : TB) (w : List Nat) : Nat → Nat → Option Nat
  | 0, _ => none
  | n + 1, k => if nms T k = some w then some k else findN T w n (k + 1)
def optI : Option Nat → Int32
  | some n => nI n
  | none => -1
/-- the model's error -/
def wr (S : MS) (f : Int32) (a : Nat) : MS := seti (seti (setb S 13 true) 9 f) 10 (nI a)
section PRM
variable {l : Launch} {G : GG} {d m : Nat} {A : Nat → Nat} {S : MS} {ρ : Hp} {B : Nat → Nat} {N a : Nat} {j : Nat} {q : String × Nat × String × List Nat} {T : TB}
theorem s_X12_wrong {f : Int32} {K : Hp → Prop} (hf : S.2.1 13 = false) (h : K (mh m A (wr S f a) ρ)) : C_X12_wrong l G (d + 1) m f (nI a) (mh m A S ρ) K := by
  refine m_X12_wrong rv_m ?_
  simp only [F_X12_wrong, mfI_0, mpI_0, mfN_1, mfI_2, mpI_2, mfI_3, mpI_3, mfI_4, mpI_4, mfI_5, mpI_5, mfI_6, mpI_6, mfI_7, mpI_7, mfI_8, mpI_8, mfI_9, mpI_9, mfI_10, mpI_10, mfI_11, mpI_11, mfN_12, mfZ_13, mpZ_13, mfZ_14, mpZ_14, mfN_15, mfN_16, mfN_17, mfN_18, mfN_19, mfN_20, mfI_21, mpI_21, mfI_22, mpI_22, mfN_23, mfN_24, mfN_25, mfN_26, mfN_27, mfN_28, mfN_29, mfI_30, mpI_30, mfN_31, mfN_32, mfN_33, mfN_34, mfN_35, mfN_36, mfN_37, mfI_38, mpI_38, mfN_39, mfI_40, mpI_40, mfI_41, mpI_41, hf]
  exact ⟨fun _ => h, fun hc => absurd hc (by decide)⟩
theorem s_X12_wrong_f {f w : Int32} {K : Hp → Prop} (hf : S.2.1 13 = true) (h : K (mh m A S ρ)) : C_X12_wrong l G (d + 1) m f w (mh m A S ρ) K := by
  refine m_X12_wrong rv_m ?_
  simp only [F_X12_wrong, mfI_0, mpI_0, mfN_1, mfI_2, mpI_2, mfI_3, mpI_3, mfI_4, mpI_4, mfI_5, mpI_5, mfI_6, mpI_6, mfI_7, mpI_7, mfI_8, mpI_8, mfI_9, mpI_9, mfI_10, mpI_10, mfI_11, mpI_11, mfN_12, mfZ_13, mpZ_13, mfZ_14, mpZ_14, mfN_15, mfN_16, mfN_17, mfN_18, mfN_19, mfN_20, mfI_21, mpI_21, mfI_22, mpI_22, mfN_23, mfN_24, mfN_25, mfN_26, mfN_27, mfN_28, mfN_29, mfI_30, mpI_30, mfN_31, mfN_32, mfN_33, mfN_34, mfN_35, mfN_36, mfN_37, mfI_38, mpI_38, mfN_39, mfI_40, mpI_40, mfI_41, mpI_41, hf]
  exact ⟨fun hc => absurd hc (by decide), fun _ => h⟩
def nx (B : Nat → Nat) (N a : Nat) : Nat := tA B N (eE B N a)
theorem nx_le (ha : a ≤ N) : nx B N a ≤ N := (tA_le (eE_le ha).2).2
theorem s_X12_nx (hA : okA m A) (ha : a ≤ N) (ht : TXT B N S) (hT : TkA B N a S) {K : Hp → Prop} (hK : ∀ S' : MS, Sm [4, 5, 6, 7, 8] [] [12] S S' → TkA B N (nx B N a) S' → K (mh m A S' ρ)) : C_X12_next l G (d + 2) m (mh m A S ρ) K :=
  s_X12_next hA (eE_le ha).2 hT.2.1 ht hK
theorem s_X12_takesWord (hA : okA m A) (hq : ssz[j]? = some q) (ha : a ≤ N) (ht : TXT B N S) (hT : TkA B N a S) (hf : S.2.1 13 = false) {K : Bool → Hp → Prop} (hK : isW B N a q.2.2.2 = true → ∀ S' : MS, Sm [4, 5, 6, 7, 8] [] [12] S S' → TkA B N (nx B N a) S' → K true (mh m A S' ρ)) (hK2 : isW B N a q.2.2.2 = false → K false (mh m A S ρ)) : C_X12_takesWord l G (d + 6) m (gK G j) (mh m A S ρ) K := by
  refine m_X12_takesWord rv_m ?_
  simp only [F_X12_takesWord]
  refine s_X12_isWord hA hq ht.1 ha ht.2.2.1 hT ?_
  rw [hf, Bool.not_false, Bool.true_and]
  exact ⟨fun h1 => s_X12_nx (d := d + 3) hA ha ht hT (hK h1), fun h1 => hK2 h1⟩
theorem s_X12_isWord_f {v : Nat} (hv : rv (mh m A S ρ) m 12) (hf : S.2.1 13 = true) {K : Bool → Hp → Prop} (h : K false (mh m A S ρ)) : C_X12_isWord l G (d + 1) m v (mh m A S ρ) K := by
  refine m_X12_isWord hv ?_
  simp only [F_X12_isWord, F_X12_isWord_26, mfI_0, mpI_0, mfN_1, mfI_2, mpI_2, mfI_3, mpI_3, mfI_4, mpI_4, mfI_5, mpI_5, mfI_6, mpI_6, mfI_7, mpI_7, mfI_8, mpI_8, mfI_9, mpI_9, mfI_10, mpI_10, mfI_11, mpI_11, mfN_12, mfZ_13, mpZ_13, mfZ_14, mpZ_14, mfN_15, mfN_16, mfN_17, mfN_18, mfN_19, mfN_20, mfI_21, mpI_21, mfI_22, mpI_22, mfN_23, mfN_24, mfN_25, mfN_26, mfN_27, mfN_28, mfN_29, mfI_30, mpI_30, mfN_31, mfN_32, mfN_33, mfN_34, mfN_35, mfN_36, mfN_37, mfI_38, mpI_38, mfN_39, mfI_40, mpI_40, mfI_41, mpI_41, hf]
  exact ⟨fun _ => h, fun hc => absurd hc (by decide)⟩
theorem s_X12_takesWord_f {v : Nat} (hf : S.2.1 13 = true) {K : Bool → Hp → Prop} (h : K false (mh m A S ρ)) : C_X12_takesWord l G (d + 2) m v (mh m A S ρ) K := by
  refine m_X12_takesWord rv_m ?_
  simp only [F_X12_takesWord]
  exact s_X12_isWord_f rv_m hf ⟨fun hc => absurd hc (by decide), fun _ => h⟩
theorem s_X12_must (hA : okA m A) (hq : ssz[j]? = some q) (ha : a ≤ N) (ht : TXT B N S) (hT : TkA B N a S) (hf : S.2.1 13 = false) {K : Hp → Prop} (hK : isW B N a q.2.2.2 = true → ∀ S' : MS, Sm [4, 5, 6, 7, 8] [] [12] S S' → TkA B N (nx B N a) S' → K (mh m A S' ρ)) (hK2 : isW B N a q.2.2.2 = false → K (mh m A (wr S 1 a) ρ)) : C_X12_must l G (d + 7) m (gK G j) (mh m A S ρ) K := by
  refine m_X12_must rv_m ?_
  simp only [F_X12_must, F_X12_must_24, mfI_0, mpI_0, mfN_1, mfI_2, mpI_2, mfI_3, mpI_3, mfI_4, mpI_4, mfI_5, mpI_5, mfI_6, mpI_6, mfI_7, mpI_7, mfI_8, mpI_8, mfI_9, mpI_9, mfI_10, mpI_10, mfI_11, mpI_11, mfN_12, mfZ_13, mpZ_13, mfZ_14, mpZ_14, mfN_15, mfN_16, mfN_17, mfN_18, mfN_19, mfN_20, mfI_21, mpI_21, mfI_22, mpI_22, mfN_23, mfN_24, mfN_25, mfN_26, mfN_27, mfN_28, mfN_29, mfI_30, mpI_30, mfN_31, mfN_32, mfN_33, mfN_34, mfN_35, mfN_36, mfN_37, mfI_38, mpI_38, mfN_39, mfI_40, mpI_40, mfI_41, mpI_41, hf]
  refine ⟨fun hc => absurd hc (by decide), fun _ => ?_⟩
  refine s_X12_takesWord hA hq ha ht hT hf (fun h1 S' h2 h3 => ⟨fun _ => hK h1 S' h2 h3, fun hc => absurd hc (by decide)⟩) (fun h1 => ⟨fun hc => absurd hc (by decide), fun _ => ?_⟩)
  simp only [mfI_0, mpI_0, mfN_1, mfI_2, mpI_2, mfI_3, mpI_3, mfI_4, mpI_4, mfI_5, mpI_5, mfI_6, mpI_6, mfI_7, mpI_7, mfI_8, mpI_8, mfI_9, mpI_9, mfI_10, mpI_10, mfI_11, mpI_11, mfN_12, mfZ_13, mpZ_13, mfZ_14, mpZ_14, mfN_15, mfN_16, mfN_17, mfN_18, mfN_19, mfN_20, mfI_21, mpI_21, mfI_22, mpI_22, mfN_23, mfN_24, mfN_25, mfN_26, mfN_27, mfN_28, mfN_29, mfI_30, mpI_30, mfN_31, mfN_32, mfN_33, mfN_34, mfN_35, mfN_36, mfN_37, mfI_38, mpI_38, mfN_39, mfI_40, mpI_40, mfI_41, mpI_41, hT.1]
  exact s_X12_wrong (d := d + 5) hf (hK2 h1)
theorem s_X12_must_f {v : Nat} (hf : S.2.1 13 = true) {K : Hp → Prop} (h : K (mh m A S ρ)) : C_X12_must l G (d + 1) m v (mh m A S ρ) K := by
  refine m_X12_must rv_m ?_
  simp only [F_X12_must, F_X12_must_24, mfI_0, mpI_0, mfN_1, mfI_2, mpI_2, mfI_3, mpI_3, mfI_4, mpI_4, mfI_5, mpI_5, mfI_6, mpI_6, mfI_7, mpI_7, mfI_8, mpI_8, mfI_9, mpI_9, mfI_10, mpI_10, mfI_11, mpI_11, mfN_12, mfZ_13, mpZ_13, mfZ_14, mpZ_14, mfN_15, mfN_16, mfN_17, mfN_18, mfN_19, mfN_20, mfI_21, mpI_21, mfI_22, mpI_22, mfN_23, mfN_24, mfN_25, mfN_26, mfN_27, mfN_28, mfN_29, mfI_30, mpI_30, mfN_31, mfN_32, mfN_33, mfN_34, mfN_35, mfN_36, mfN_37, mfI_38, mpI_38, mfN_39, mfI_40, mpI_40, mfI_41, mpI_41, hf]
  exact ⟨fun _ => h, fun hc => absurd hc (by decide)⟩
theorem s_X12_mustComma (hA : okA m A) (ha : a ≤ N) (ht : TXT B N S) (hT : TkA B N a S) (hf : S.2.1 13 = false) {K : Hp → Prop} (hK : eK B N a = 44 → ∀ S' : MS, Sm [4, 5, 6, 7, 8] [] [12] S S' → TkA B N (nx B N a) S' → K (mh m A S' ρ)) (hK2 : eK B N a ≠ 44 → K (mh m A (wr S 1 a) ρ)) : C_X12_mustComma l G (d + 3) m (mh m A S ρ) K := by
  have h60 := eK_lt (B := B) (N := N) (a := a)
  refine m_X12_mustComma rv_m ?_
  simp only [F_X12_mustComma, F_X12_mustComma_33, mfI_0, mpI_0, mfN_1, mfI_2, mpI_2, mfI_3, mpI_3, mfI_4, mpI_4, mfI_5, mpI_5, mfI_6, mpI_6, mfI_7, mpI_7, mfI_8, mpI_8, mfI_9, mpI_9, mfI_10, mpI_10, mfI_11, mpI_11, mfN_12, mfZ_13, mpZ_13, mfZ_14, mpZ_14, mfN_15, mfN_16, mfN_17, mfN_18, mfN_19, mfN_20, mfI_21, mpI_21, mfI_22, mpI_22, mfN_23, mfN_24, mfN_25, mfN_26, mfN_27, mfN_28, mfN_29, mfI_30, mpI_30, mfN_31, mfN_32, mfN_33, mfN_34, mfN_35, mfN_36, mfN_37, mfI_38, mpI_38, mfN_39, mfI_40, mpI_40, mfI_41, mpI_41, hf, hT.2.2.1, hT.1]
  refine ⟨fun _ => ?_, fun hc => absurd hc (by decide)⟩
  rw [show (44 : Int32) = nI 44 from rfl, nt_eq (by omega) (by decide)]
  exact ⟨fun h1 => s_X12_wrong (d := d + 1) hf (hK2 h1), fun h1 => s_X12_nx hA ha ht hT (hK h1)⟩
theorem s_X12_mustComma_f (hf : S.2.1 13 = true) {K : Hp → Prop} (h : K (mh m A S ρ)) : C_X12_mustComma l G (d + 1) m (mh m A S ρ) K := by
  refine m_X12_mustComma rv_m ?_
  simp only [F_X12_mustComma, F_X12_mustComma_33, mfI_0, mpI_0, mfN_1, mfI_2, mpI_2, mfI_3, mpI_3, mfI_4, mpI_4, mfI_5, mpI_5, mfI_6, mpI_6, mfI_7, mpI_7, mfI_8, mpI_8, mfI_9, mpI_9, mfI_10, mpI_10, mfI_11, mpI_11, mfN_12, mfZ_13, mpZ_13, mfZ_14, mpZ_14, mfN_15, mfN_16, mfN_17, mfN_18, mfN_19, mfN_20, mfI_21, mpI_21, mfI_22, mpI_22, mfN_23, mfN_24, mfN_25, mfN_26, mfN_27, mfN_28, mfN_29, mfI_30, mpI_30, mfN_31, mfN_32, mfN_33, mfN_34, mfN_35, mfN_36, mfN_37, mfI_38, mpI_38, mfN_39, mfI_40, mpI_40, mfI_41, mpI_41, hf]
  exact ⟨fun hc => absurd hc (by decide), fun _ => h⟩
/-- the number that stands at a -/
def tV (B : Nat → Nat) (N a : Nat) : Nat := dg B a (eE B N a - a)
theorem tV_lt (hb : ∀ j, B j < 256) (ha : a ≤ N) (h3 : eK B N a = 3) : tV B N a < 30000 := by
  refine dg_lt hb _ ?_
  unfold eK at h3
  (repeat' (split at h3)) <;> omega
theorem s_X12_numberHere (hT : TkA B N a S) (hb : ∀ j, B j < 256) (ha : a ≤ N) (hf : S.2.1 13 = false) {lo hi : Nat} (hlo : lo < 2 ^ 31) (hhi : hi < 2 ^ 31) {K : Int32 → Hp → Prop} (hK : eK B N a = 3 → lo ≤ tV B N a → tV B N a ≤ hi → K (nI (tV B N a)) (mh m A S ρ)) (hK1 : eK B N a ≠ 3 → K (nI lo) (mh m A (wr S 1 a) ρ)) (hK2 : eK B N a = 3 → ¬ (lo ≤ tV B N a ∧ tV B N a ≤ hi) → K (nI lo) (mh m A (wr S 4 a) ρ)) : C_X12_numberHere l G (d + 2) m (nI lo) (nI hi) (mh m A S ρ) K := by
  have h60 := eK_lt (B := B) (N := N) (a := a)
  refine m_X12_numberHere rv_m ?_
  simp only [F_X12_numberHere, F_X12_numberHere_50, F_X12_numberHere_65, mfI_0, mpI_0, mfN_1, mfI_2, mpI_2, mfI_3, mpI_3, mfI_4, mpI_4, mfI_5, mpI_5, mfI_6, mpI_6, mfI_7, mpI_7, mfI_8, mpI_8, mfI_9, mpI_9, mfI_10, mpI_10, mfI_11, mpI_11, mfN_12, mfZ_13, mpZ_13, mfZ_14, mpZ_14, mfN_15, mfN_16, mfN_17, mfN_18, mfN_19, mfN_20, mfI_21, mpI_21, mfI_22, mpI_22, mfN_23, mfN_24, mfN_25, mfN_26, mfN_27, mfN_28, mfN_29, mfI_30, mpI_30, mfN_31, mfN_32, mfN_33, mfN_34, mfN_35, mfN_36, mfN_37, mfI_38, mpI_38, mfN_39, mfI_40, mpI_40, mfI_41, mpI_41, hf, hT.2.2.1, hT.1]
  refine ⟨fun _ => ?_, fun hc => absurd hc (by decide)⟩
  rw [show (3 : Int32) = nI 3 from rfl, nt_eq (by omega) (by decide)]
  refine ⟨fun h1 => ?_, fun h1 => ?_⟩
  · have hv := tV_lt hb ha h1
    have h7 : S.1 7 = nI (tV B N a) := hT.2.2.2.2 h1
    simp only [h7]
    refine s_X12_within ?_
    refine ⟨fun h2 => ?_, fun h2 => ?_⟩
    · simp only [mfI_0, mpI_0, mfN_1, mfI_2, mpI_2, mfI_3, mpI_3, mfI_4, mpI_4, mfI_5, mpI_5, mfI_6, mpI_6, mfI_7, mpI_7, mfI_8, mpI_8, mfI_9, mpI_9, mfI_10, mpI_10, mfI_11, mpI_11, mfN_12, mfZ_13, mpZ_13, mfZ_14, mpZ_14, mfN_15, mfN_16, mfN_17, mfN_18, mfN_19, mfN_20, mfI_21, mpI_21, mfI_22, mpI_22, mfN_23, mfN_24, mfN_25, mfN_26, mfN_27, mfN_28, mfN_29, mfI_30, mpI_30, mfN_31, mfN_32, mfN_33, mfN_34, mfN_35, mfN_36, mfN_37, mfI_38, mpI_38, mfN_39, mfI_40, mpI_40, mfI_41, mpI_41, hf, h7]
      simp only [decide_eq_true_eq, nt_lt (show tV B N a < 2 ^ 31 by omega) hlo, nt_lt hhi (show tV B N a < 2 ^ 31 by omega)] at h2
      exact ⟨fun _ => hK h1 (by omega) (by omega), fun hc => absurd hc (by decide)⟩
    · simp only [mfI_0, mpI_0, mfN_1, mfI_2, mpI_2, mfI_3, mpI_3, mfI_4, mpI_4, mfI_5, mpI_5, mfI_6, mpI_6, mfI_7, mpI_7, mfI_8, mpI_8, mfI_9, mpI_9, mfI_10, mpI_10, mfI_11, mpI_11, mfN_12, mfZ_13, mpZ_13, mfZ_14, mpZ_14, mfN_15, mfN_16, mfN_17, mfN_18, mfN_19, mfN_20, mfI_21, mpI_21, mfI_22, mpI_22, mfN_23, mfN_24, mfN_25, mfN_26, mfN_27, mfN_28, mfN_29, mfI_30, mpI_30, mfN_31, mfN_32, mfN_33, mfN_34, mfN_35, mfN_36, mfN_37, mfI_38, mpI_38, mfN_39, mfI_40, mpI_40, mfI_41, mpI_41, hT.1]
      simp only [decide_eq_false_iff_not, nt_lt (show tV B N a < 2 ^ 31 by omega) hlo, nt_lt hhi (show tV B N a < 2 ^ 31 by omega)] at h2
      refine s_X12_wrong (d := d) hf ?_
      simp only [mfI_0, mpI_0, mfN_1, mfI_2, mpI_2, mfI_3, mpI_3, mfI_4, mpI_4, mfI_5, mpI_5, mfI_6, mpI_6, mfI_7, mpI_7, mfI_8, mpI_8, mfI_9, mpI_9, mfI_10, mpI_10, mfI_11, mpI_11, mfN_12, mfZ_13, mpZ_13, mfZ_14, mpZ_14, mfN_15, mfN_16, mfN_17, mfN_18, mfN_19, mfN_20, mfI_21, mpI_21, mfI_22, mpI_22, mfN_23, mfN_24, mfN_25, mfN_26, mfN_27, mfN_28, mfN_29, mfI_30, mpI_30, mfN_31, mfN_32, mfN_33, mfN_34, mfN_35, mfN_36, mfN_37, mfI_38, mpI_38, mfN_39, mfI_40, mpI_40, mfI_41, mpI_41]
      exact ⟨fun hc => absurd hc (by simp [wr, ms_i, ms_i2, ms_b1, ms_b, ms_b2, ms_a1, ms_a2, ms_a, ms_a3, ms_j1, ms_j2, ms_j3, ms_j, ↓reduceIte, Nat.reduceEqDiff]), fun _ => hK2 h1 (by omega)⟩
  · refine s_X12_wrong (d := d) hf ?_
    simp only [mfI_0, mpI_0, mfN_1, mfI_2, mpI_2, mfI_3, mpI_3, mfI_4, mpI_4, mfI_5, mpI_5, mfI_6, mpI_6, mfI_7, mpI_7, mfI_8, mpI_8, mfI_9, mpI_9, mfI_10, mpI_10, mfI_11, mpI_11, mfN_12, mfZ_13, mpZ_13, mfZ_14, mpZ_14, mfN_15, mfN_16, mfN_17, mfN_18, mfN_19, mfN_20, mfI_21, mpI_21, mfI_22, mpI_22, mfN_23, mfN_24, mfN_25, mfN_26, mfN_27, mfN_28, mfN_29, mfI_30, mpI_30, mfN_31, mfN_32, mfN_33, mfN_34, mfN_35, mfN_36, mfN_37, mfI_38, mpI_38, mfN_39, mfI_40, mpI_40, mfI_41, mpI_41]
    exact ⟨fun hc => absurd hc (by simp [wr, ms_i, ms_i2, ms_b1, ms_b, ms_b2, ms_a1, ms_a2, ms_a, ms_a3, ms_j1, ms_j2, ms_j3, ms_j, ↓reduceIte, Nat.reduceEqDiff]), fun _ => hK1 h1⟩
theorem s_X12_numberHere_f {lo hi : Int32} (hf : S.2.1 13 = true) {K : Int32 → Hp → Prop} (h : K lo (mh m A S ρ)) : C_X12_numberHere l G (d + 1) m lo hi (mh m A S ρ) K := by
  refine m_X12_numberHere rv_m ?_
  simp only [F_X12_numberHere, F_X12_numberHere_50, F_X12_numberHere_65, mfI_0, mpI_0, mfN_1, mfI_2, mpI_2, mfI_3, mpI_3, mfI_4, mpI_4, mfI_5, mpI_5, mfI_6, mpI_6, mfI_7, mpI_7, mfI_8, mpI_8, mfI_9, mpI_9, mfI_10, mpI_10, mfI_11, mpI_11, mfN_12, mfZ_13, mpZ_13, mfZ_14, mpZ_14, mfN_15, mfN_16, mfN_17, mfN_18, mfN_19, mfN_20, mfI_21, mpI_21, mfI_22, mpI_22, mfN_23, mfN_24, mfN_25, mfN_26, mfN_27, mfN_28, mfN_29, mfI_30, mpI_30, mfN_31, mfN_32, mfN_33, mfN_34, mfN_35, mfN_36, mfN_37, mfI_38, mpI_38, mfN_39, mfI_40, mpI_40, mfI_41, mpI_41, hf]
  exact ⟨fun hc => absurd hc (by decide), fun _ => h⟩
theorem wr_f {f : Int32} {p : Nat} : (wr S f p).2.1 13 = true := rfl
theorem s_X12_number (hA : okA m A) (ht : TXT B N S) (hT : TkA B N a S) (ha : a ≤ N) (hf : S.2.1 13 = false) {lo hi : Nat} (hlo : lo < 2 ^ 31) (hhi : hi < 2 ^ 31) {K : Int32 → Hp → Prop} (hK : eK B N a = 3 → lo ≤ tV B N a → tV B N a ≤ hi → ∀ S' : MS, Sm [4, 5, 6, 7, 8] [] [12] S S' → TkA B N (nx B N a) S' → K (nI (tV B N a)) (mh m A S' ρ)) (hK1 : eK B N a ≠ 3 → K (nI lo) (mh m A (wr S 1 a) ρ)) (hK2 : eK B N a = 3 → ¬ (lo ≤ tV B N a ∧ tV B N a ≤ hi) → K (nI lo) (mh m A (wr S 4 a) ρ)) : C_X12_number l G (d + 3) m (nI lo) (nI hi) (mh m A S ρ) K := by
  refine m_X12_number rv_m ?_
  simp only [F_X12_number, F_X12_number_18]
  refine s_X12_numberHere hT ht.2.2.1 ha hf hlo hhi (fun h1 h2 h3 => ?_) (fun h1 => ?_) (fun h1 h2 => ?_)
  · simp only [mfI_0, mpI_0, mfN_1, mfI_2, mpI_2, mfI_3, mpI_3, mfI_4, mpI_4, mfI_5, mpI_5, mfI_6, mpI_6, mfI_7, mpI_7, mfI_8, mpI_8, mfI_9, mpI_9, mfI_10, mpI_10, mfI_11, mpI_11, mfN_12, mfZ_13, mpZ_13, mfZ_14, mpZ_14, mfN_15, mfN_16, mfN_17, mfN_18, mfN_19, mfN_20, mfI_21, mpI_21, mfI_22, mpI_22, mfN_23, mfN_24, mfN_25, mfN_26, mfN_27, mfN_28, mfN_29, mfI_30, mpI_30, mfN_31, mfN_32, mfN_33, mfN_34, mfN_35, mfN_36, mfN_37, mfI_38, mpI_38, mfN_39, mfI_40, mpI_40, mfI_41, mpI_41, hf]
    exact ⟨fun hc => absurd hc (by decide), fun _ => s_X12_nx hA ha ht hT (hK h1 h2 h3)⟩
  · simp only [mfI_0, mpI_0, mfN_1, mfI_2, mpI_2, mfI_3, mpI_3, mfI_4, mpI_4, mfI_5, mpI_5, mfI_6, mpI_6, mfI_7, mpI_7, mfI_8, mpI_8, mfI_9, mpI_9, mfI_10, mpI_10, mfI_11, mpI_11, mfN_12, mfZ_13, mpZ_13, mfZ_14, mpZ_14, mfN_15, mfN_16, mfN_17, mfN_18, mfN_19, mfN_20, mfI_21, mpI_21, mfI_22, mpI_22, mfN_23, mfN_24, mfN_25, mfN_26, mfN_27, mfN_28, mfN_29, mfI_30, mpI_30, mfN_31, mfN_32, mfN_33, mfN_34, mfN_35, mfN_36, mfN_37, mfI_38, mpI_38, mfN_39, mfI_40, mpI_40, mfI_41, mpI_41, wr_f]
    exact ⟨fun _ => hK1 h1, fun hc => absurd hc (by decide)⟩
  · simp only [mfI_0, mpI_0, mfN_1, mfI_2, mpI_2, mfI_3, mpI_3, mfI_4, mpI_4, mfI_5, mpI_5, mfI_6, mpI_6, mfI_7, mpI_7, mfI_8, mpI_8, mfI_9, mpI_9, mfI_10, mpI_10, mfI_11, mpI_11, mfN_12, mfZ_13, mpZ_13, mfZ_14, mpZ_14, mfN_15, mfN_16, mfN_17, mfN_18, mfN_19, mfN_20, mfI_21, mpI_21, mfI_22, mpI_22, mfN_23, mfN_24, mfN_25, mfN_26, mfN_27, mfN_28, mfN_29, mfI_30, mpI_30, mfN_31, mfN_32, mfN_33, mfN_34, mfN_35, mfN_36, mfN_37, mfI_38, mpI_38, mfN_39, mfI_40, mpI_40, mfI_41, mpI_41, wr_f]
    exact ⟨fun _ => hK2 h1 h2, fun hc => absurd hc (by decide)⟩
theorem s_X12_number_f {lo hi : Int32} (hf : S.2.1 13 = true) {K : Int32 → Hp → Prop} (h : K lo (mh m A S ρ)) : C_X12_number l G (d + 2) m lo hi (mh m A S ρ) K := by
  refine m_X12_number rv_m ?_
  simp only [F_X12_number, F_X12_number_18]
  refine s_X12_numberHere_f hf ?_
  simp only [mfI_0, mpI_0, mfN_1, mfI_2, mpI_2, mfI_3, mpI_3, mfI_4, mpI_4, mfI_5, mpI_5, mfI_6, mpI_6, mfI_7, mpI_7, mfI_8, mpI_8, mfI_9, mpI_9, mfI_10, mpI_10, mfI_11, mpI_11, mfN_12, mfZ_13, mpZ_13, mfZ_14, mpZ_14, mfN_15, mfN_16, mfN_17, mfN_18, mfN_19, mfN_20, mfI_21, mpI_21, mfI_22, mpI_22, mfN_23, mfN_24, mfN_25, mfN_26, mfN_27, mfN_28, mfN_29, mfI_30, mpI_30, mfN_31, mfN_32, mfN_33, mfN_34, mfN_35, mfN_36, mfN_37, mfI_38, mpI_38, mfN_39, mfI_40, mpI_40, mfI_41, mpI_41, hf]
  exact ⟨fun _ => h, fun hc => absurd hc (by decide)⟩
end PRM
