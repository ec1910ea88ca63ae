/-! stands in the model -/
section STD
variable {l : Launch} {G : GG} {d m : Nat} {A : Nat → Nat} {S : MS} {ρ : Hp} {T : TB} {L : List LY}
theorem sd_set {tk who sq : Nat} (htk : tk < 16384) (hsq : sq < 16384) (hwho : who < 2) : (sd tk who ||| sq) ^^^ 16384 = sd (tk ||| sq) (1 - who) := by
  sorry
theorem mAt_lt {f : LY → Bool} : ∀ (L : List LY) k i n, mAt f L k i = some n → k ≤ n ∧ n < k + L.length
  | [], k, i, n => by simp [mAt]
  | e :: es, k, i, n => by
    simp only [mAt, List.length_cons]
    split
    · split
      · intro h; cases h; omega
      · intro h; have := mAt_lt es (k + 1) (i - 1) n h; omega
    · intro h; have := mAt_lt es (k + 1) i n h; omega
theorem s_X12_isOver (hA : okA m A) (hR : TR T (S.2.2.1 15)) (hW : WFT T) (hL : LR L S) (hV : VL T L) {tk who : Nat} (htk : tk < 16384) (hwho : who < 2) {K : Bool → Hp → Prop} (h : K (decide (mAt (fun e => myE T e tk who) L 0 0 = none)) (mh m A S ρ)) : C_X12_isOver l G (d + 5) m (nI (sd tk who)) (mh m A S ρ) K := by
  refine m_X12_isOver rv_m ?_
  simp only [F_X12_isOver_16, F_X12_isOver]
  refine s_X12_mayAt (d := d) (i := 0) hA hR hW hL hV htk hwho (by decide) ?_
  cases hm : mAt (fun e => myE T e tk who) L 0 0 with
  | none =>
    rw [hm] at h
    exact ⟨fun hc => absurd rfl hc, fun _ => kif h (by simp)⟩
  | some n =>
    rw [hm] at h
    have h1 := mAt_lt _ _ _ _ hm
    have h2 := hL.1
    have hne : ¬ nI n = (-2 : Int32) := by
      intro e
      have := congrArg Int32.toInt e
      rw [nI_toInt (by omega)] at this
      have h3 : (-2 : Int32).toInt = -2 := by decide
      omega
    exact ⟨fun _ => kif h (by simp), fun hc => absurd hc hne⟩
end STD
