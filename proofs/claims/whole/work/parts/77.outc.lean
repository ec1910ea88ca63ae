/-! the Outlook as part of the region -/
/-- what stands still -/
def SS (P : Nat → Nat) (τ : Hp) (Q : Nat → Prop) (X : TX) (T : TB) : Prop := okB 75 P ∧ TBr Q τ X T ∧ (∀ q, Q q → outB 75 P q) ∧ WFT T
/-- the Outlook is turned to the table; N: no stamp is more -/
def OUr (P : Nat → Nat) (X : TX) (T : TB) (N : Nat) (C : Nat → CE) : Prop := ∃ st s S, s ≤ 14 ∧ nsq T.2.1 ≤ s ∧ st ≤ N % 1024 ∧ N / 1024 ≤ s ∧ OSI T st s S ∧ ∀ k, 2 ≤ k → k ≤ 11 → C k = oc P (some (xT X)) st s S C k
theorem oc_in {P : Nat → Nat} {tb : Option Nat} {st s : Nat} {S : OS} (C C' : Nat → CE) {k : Nat} (h1 : 2 ≤ k) (h2 : k ≤ 11) : oc P tb st s S C k = oc P tb st s S C' k := by
  obtain rfl | rfl | rfl | rfl | rfl | rfl | rfl | rfl | rfl | rfl : k = 2 ∨ k = 3 ∨ k = 4 ∨ k = 5 ∨ k = 6 ∨ k = 7 ∨ k = 8 ∨ k = 9 ∨ k = 10 ∨ k = 11 := by omega
  all_goals rfl
theorem OUr.cg {P : Nat → Nat} {X : TX} {T : TB} {N : Nat} {C C' : Nat → CE} (h : OUr P X T N C) (hc : ∀ k, 2 ≤ k → k ≤ 11 → C' k = C k) : OUr P X T N C' := by
  obtain ⟨st, s, S, h1, h2, h3, h4, h5, h6⟩ := h
  exact ⟨st, s, S, h1, h2, h3, h4, h5, fun k a b => by rw [hc k a b, h6 k a b]; exact oc_in _ _ a b⟩
section OUTC
variable {l : Launch} {G : GG} {d : Nat} {P : Nat → Nat} {C : Nat → CE} {τ : Hp} {Q : Nat → Prop} {X : TX} {T : TB} {N : Nat}
theorem SS.hX (h : SS P τ Q X T) (C : Nat → CE) : TBr Q (ch 75 P C τ) X T := h.2.1.mo fun q hq => ch_r (h.2.2.1 q hq)
theorem OUr.go (h : OUr P X T N C) (hS : SS P τ Q X T) : ∃ st s S, OST P τ Q X T st s ∧ OSI T st s S ∧ ch 75 P C τ = oh P (some (xT X)) st s S C τ ∧ ∀ S', OSI T st s S' → Ck 2 11 C (oc P (some (xT X)) st s S' C) ∧ OUr P X T N (oc P (some (xT X)) st s S' C) := by
  obtain ⟨st, s, S, h1, h2, h3, h4, h5, h6⟩ := h
  obtain ⟨g1, g2, g3, g4⟩ := hS
  refine ⟨st, s, S, ⟨g1, h1, g2, g3, g4, h2, by omega⟩, h5, ?_, fun S' h7 => ⟨fun k hk => oc_out hk, st, s, S', h1, h2, h3, h4, h7, fun k a b => oc_in _ _ a b⟩⟩
  have : C = oc P (some (xT X)) st s S C := by
    funext k
    by_cases hk : 2 ≤ k ∧ k ≤ 11
    · exact h6 k hk.1 hk.2
    · rw [oc_out (by omega)]
  unfold oh
  rw [← this]
theorem sq_s {st s : Nat} (h : OST P τ Q X T st s) {tk : Nat} (htk : tk < 2 ^ nsq T.2.1) : tk < 2 ^ s := Nat.lt_of_lt_of_le htk (Nat.pow_le_pow_right (by decide) h.2.2.2.2.2.1)
theorem c_isWon (hS : SS P τ Q X T) (hO : OUr P X T N C) {tk who : Nat} (htk : tk < 2 ^ nsq T.2.1) (hwho : who < 2) {K : Bool → Hp → Prop} (hK : ∀ C', Ck 2 11 C C' → OUr P X T N C' → K (wH (vl T (allL T) tk who)) (ch 75 P C' τ)) : C_X3_isWon l G (d + 19) (P 2) (nI tk) (nI who) (ch 75 P C τ) K := by
  obtain ⟨st, s, S, a1, a2, a3, a4⟩ := hO.go hS
  rw [a3]
  exact s_X3_isWon (d := d) a1 (sq_s a1 htk) hwho a2 fun S' h1 => hK _ (a4 S' h1).1 (a4 S' h1).2
theorem c_measured (hS : SS P τ Q X T) (hO : OUr P X T N C) {tk who w : Nat} (hw : w < 4) (htk : tk < 2 ^ nsq T.2.1) (hwho : who < 2) {K : Int32 → Hp → Prop} (hK : ∀ C', Ck 2 11 C C' → OUr P X T N C' → K (nI (if w = 0 then wN (vl T (allL T) tk who) else if w = 1 then wF (vl T (allL T) tk who) else if w = 2 then wM (vl T (allL T) tk who) else wL (vl T (allL T) tk who))) (ch 75 P C' τ)) : C_X3_measured l G (d + 19) (P 2) (nI w) (nI tk) (nI who) (ch 75 P C τ) K := by
  obtain ⟨st, s, S, a1, a2, a3, a4⟩ := hO.go hS
  rw [a3]
  exact s_X3_measured (d := d) a1 hw (sq_s a1 htk) hwho a2 fun S' h1 => hK _ (a4 S' h1).1 (a4 S' h1).2
theorem c_rowsOfLays (hS : SS P τ Q X T) (hO : OUr P X T N C) {tk who : Nat} (htk : tk < 2 ^ nsq T.2.1) (hwho : who < 2) {K : Int64 → Hp → Prop} (hK : ∀ C', Ck 2 11 C C' → OUr P X T N C' → K (lN (wW (vl T (allL T) tk who))) (ch 75 P C' τ)) : C_X3_rowsOfLays l G (d + 19) (P 2) (nI tk) (nI who) (ch 75 P C τ) K := by
  obtain ⟨st, s, S, a1, a2, a3, a4⟩ := hO.go hS
  rw [a3]
  exact s_X3_rowsOfLays (d := d) a1 (sq_s a1 htk) hwho a2 fun S' h1 => hK _ (a4 S' h1).1 (a4 S' h1).2
theorem c_firstWinning (hS : SS P τ Q X T) (hO : OUr P X T N C) {tk who : Nat} (htk : tk < 2 ^ nsq T.2.1) (hwho : who < 2) {K : Option Nat → Hp → Prop} (hK : ∀ C', Ck 2 11 C C' → OUr P X T N C' → K ((mAt (gdE T (allL T) tk who) (allL T) 0 0).map (xl X)) (ch 75 P C' τ)) : C_X3_firstWinning l G (d + 20) (P 2) (nI tk) (nI who) (ch 75 P C τ) K := by
  obtain ⟨st, s, S, a1, a2, a3, a4⟩ := hO.go hS
  rw [a3]
  exact s_X3_firstWinning (d := d) a1 (sq_s a1 htk) hwho a2 fun S' h1 => hK _ (a4 S' h1).1 (a4 S' h1).2
theorem c_countWinning (hS : SS P τ Q X T) (hO : OUr P X T N C) {tk who : Nat} (htk : tk < 2 ^ nsq T.2.1) (hwho : who < 2) {K : Int32 → Hp → Prop} (hK : ∀ C', Ck 2 11 C C' → OUr P X T N C' → K (nI ((allL T).filter (gdE T (allL T) tk who)).length) (ch 75 P C' τ)) : C_X3_countWinning l G (d + 20) (P 2) (nI tk) (nI who) (ch 75 P C τ) K := by
  obtain ⟨st, s, S, a1, a2, a3, a4⟩ := hO.go hS
  rw [a3]
  exact s_X3_countWinning (d := d) a1 (sq_s a1 htk) hwho a2 fun S' h1 => hK _ (a4 S' h1).1 (a4 S' h1).2
theorem c_turningSquare (hS : SS P τ Q X T) (hO : OUr P X T N C) {tk who : Nat} (htk : tk < 2 ^ nsq T.2.1) (hwho : who < 2) {K : Int32 → Hp → Prop} (hK : ∀ C', Ck 2 11 C C' → OUr P X T N C' → K (optF (elbT T (allL T) tk who)) (ch 75 P C' τ)) : C_X3_turningSquare l G (d + 20) (P 2) (nI tk) (nI who) (ch 75 P C τ) K := by
  obtain ⟨st, s, S, a1, a2, a3, a4⟩ := hO.go hS
  rw [a3]
  exact s_X3_turningSquare (d := d) a1 (sq_s a1 htk) hwho a2 fun S' h1 => hK _ (a4 S' h1).1 (a4 S' h1).2
theorem c_grundyOf (hS : SS P τ Q X T) (hO : OUr P X T N C) {tk k : Nat} {b : BD} (hk : T.2.1[k]? = some b) (htk : tk < 2 ^ nsq T.2.1) {K : Int32 → Hp → Prop} (hK : ∀ C', Ck 2 11 C C' → OUr P X T N C' → K (nI (gr T (allL T) (some k) tk)) (ch 75 P C' τ)) : C_X3_grundyOf l G (d + 18) (P 2) (xb X k) (nI tk) (ch 75 P C τ) K := by
  obtain ⟨st, s, S, a1, a2, a3, a4⟩ := hO.go hS
  rw [a3]
  exact s_X3_grundyOf (d := d) a1 hk (sq_s a1 htk) a2 fun S' h1 => hK _ (a4 S' h1).1 (a4 S' h1).2
theorem c_grundyOfAll (hS : SS P τ Q X T) (hO : OUr P X T N C) {tk : Nat} (htk : tk < 2 ^ nsq T.2.1) {K : Int32 → Hp → Prop} (hK : ∀ C', Ck 2 11 C C' → OUr P X T N C' → K (nI (gr T (allL T) none tk)) (ch 75 P C' τ)) : C_X3_grundyOfAll l G (d + 19) (P 2) (nI tk) (ch 75 P C τ) K := by
  obtain ⟨st, s, S, a1, a2, a3, a4⟩ := hO.go hS
  rw [a3]
  exact s_X3_grundyOfAll (d := d) a1 (sq_s a1 htk) a2 fun S' h1 => hK _ (a4 S' h1).1 (a4 S' h1).2
theorem SS.lys (hS : SS P τ Q X T) {ls : List Nat} (hG : GD (allL T) ls) : LYS P τ (xl X) ls := by
  intro x hx
  obtain ⟨i, hi, rfl⟩ := List.mem_iff_getElem.mp hx
  obtain ⟨e, he, -⟩ := hG i _ (List.getElem?_eq_getElem hi)
  obtain ⟨q, h2⟩ := hS.2.1.2.2.2.2.2.2 _ _ he
  exact ⟨hS.2.2.1 _ q, rv_at h2 ⟨_, rfl⟩⟩
end OUTC
