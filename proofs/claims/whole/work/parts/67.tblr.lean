/-! the table of the class, read -/
/-- where a table's things are: table, boards' list, pieces' list, lays' array; boards, pieces, lays -/
abbrev TX : Type := Nat × Nat × Nat × Nat × (Nat → Nat) × (Nat → Nat) × (Nat → Nat)
abbrev xT (X : TX) : Nat := X.1
abbrev xB (X : TX) : Nat := X.2.1
abbrev xP (X : TX) : Nat := X.2.2.1
abbrev xL' (X : TX) : Nat := X.2.2.2.1
abbrev xb (X : TX) : Nat → Nat := X.2.2.2.2.1
abbrev xp (X : TX) : Nat → Nat := X.2.2.2.2.2.1
abbrev xl (X : TX) : Nat → Nat := X.2.2.2.2.2.2
/-- a list of n items -/
def LST (Q : Nat → Prop) (σ : Hp) (a n : Nat) (f : Nat → Nat) : Prop := Q a ∧ ∃ md da N g, σ a = some (O13 md (some da) (nI n)) ∧ Q da ∧ σ da = some (rA 6 N g) ∧ n ≤ N ∧ N < 2 ^ 30 ∧ ∀ i, i < n → g i = some (f i)
def TBr (Q : Nat → Prop) (σ : Hp) (X : TX) (T : TB) : Prop :=
  (Q (xT X) ∧ σ (xT X) = some (O8 T.1.1 T.1.2.1 T.1.2.2 (some (xB X)) (some (xP X)) (nI (nsq T.2.1)) (nI T.2.2.2) true (some (xL' X)))) ∧
  LST Q σ (xB X) T.2.1.length (xb X) ∧ LST Q σ (xP X) T.2.2.1.length (xp X) ∧
  (∀ k b, T.2.1[k]? = some b → Q (xb X k) ∧ ∃ nm, σ (xb X k) = some (BDc k nm b)) ∧
  (∀ k p, T.2.2.1[k]? = some p → Q (xp X k) ∧ ∃ nm, σ (xp X k) = some (PCc k nm p)) ∧
  (Q (xL' X) ∧ ∃ g, σ (xL' X) = some (rA 3 (allL T).length g) ∧ ∀ i, i < (allL T).length → g i = some (xl X i)) ∧
  ∀ i e, (allL T)[i]? = some e → Q (xl X i) ∧ σ (xl X i) = some (LYc T i (xp X e.1) (xb X e.2.1) e ((acr T (allL T) e).map (xl X)))
theorem LST.mo {Q : Nat → Prop} {σ σ' : Hp} {a n : Nat} {f : Nat → Nat} (h : LST Q σ a n f) (hs : ∀ q, Q q → σ' q = σ q) : LST Q σ' a n f := by
  obtain ⟨h1, md, da, N, g, h2, h3, h4, h5⟩ := h
  exact ⟨h1, md, da, N, g, (hs _ h1).trans h2, h3, (hs _ h3).trans h4, h5⟩
theorem TBr.mo {Q : Nat → Prop} {σ σ' : Hp} {X : TX} {T : TB} (h : TBr Q σ X T) (hs : ∀ q, Q q → σ' q = σ q) : TBr Q σ' X T := by
  obtain ⟨⟨a1, a2⟩, b, c, e, f, ⟨g1, g, g2, g3⟩, i⟩ := h
  refine ⟨⟨a1, (hs _ a1).trans a2⟩, b.mo hs, c.mo hs, fun k b hk => ?_, fun k p hk => ?_, ⟨g1, g, (hs _ g1).trans g2, g3⟩, fun k l hk => ?_⟩
  · obtain ⟨q, nm, h⟩ := e k b hk
    exact ⟨q, nm, (hs _ q).trans h⟩
  · obtain ⟨q, nm, h⟩ := f k p hk
    exact ⟨q, nm, (hs _ q).trans h⟩
  · obtain ⟨q, h⟩ := i k l hk
    exact ⟨q, (hs _ q).trans h⟩
theorem hr_or (f al a c : Nat) : ∀ n k x y, hrN f al (a ||| c) n k (x ||| y) = hrN f al a n k x ||| hrN f al c n k y
  | 0, k, x, y => rfl
  | n + 1, k, x, y => by
    simp only [hrN, Nat.testBit_or]
    rw [← hr_or f al a c n (k + 1)]
    congr 1
    apply Nat.eq_of_testBit_eq
    intro i
    cases a.testBit (f + k) <;> cases c.testBit (f + k) <;> simp only [Bool.or_true, Bool.or_false, Bool.false_eq_true, if_true, if_false, Nat.testBit_or] <;> cases x.testBit i <;> cases y.testBit i <;> cases (2 ^ (f + al - 1 - k)).testBit i <;> rfl
theorem hrN_bit (f al sq : Nat) : ∀ n k x j, k + n ≤ al → (hrN f al sq n k x).testBit j = (x.testBit j || (decide (f + al - k - n ≤ j ∧ j < f + al - k) && sq.testBit (2 * f + al - 1 - j)))
  | 0, k, x, j => fun h => by simp [hrN]; omega
  | n + 1, k, x, j => fun h => by
    simp only [hrN]
    rw [hrN_bit f al sq n (k + 1) _ j (by omega)]
    by_cases hj : j = f + al - 1 - k
    · subst hj
      rw [show 2 * f + al - 1 - (f + al - 1 - k) = f + k by omega, decide_eq_false (by omega : ¬ (f + al - (k + 1) - n ≤ f + al - 1 - k ∧ f + al - 1 - k < f + al - (k + 1))), decide_eq_true (by omega : f + al - k - (n + 1) ≤ f + al - 1 - k ∧ f + al - 1 - k < f + al - k), Bool.false_and, Bool.or_false, Bool.true_and]
      cases sq.testBit (f + k) with
      | true => simp [fb_bit_set]
      | false => simp
    · have e1 : (if sq.testBit (f + k) = true then x ||| 2 ^ (f + al - 1 - k) else x).testBit j = x.testBit j := by
        split
        · rw [fb_bit_set, decide_eq_false hj, Bool.or_false]
        · rfl
      rw [e1]
      congr 2
      rw [decide_eq_decide]
      omega
theorem hr_bit (b : BD) (sq j : Nat) : (hr b sq).testBit j = (decide (b.2.2.1 ≤ j ∧ j < b.2.2.1 + b.1 * b.2.1) && sq.testBit (2 * b.2.2.1 + b.1 * b.2.1 - 1 - j)) := by
  unfold hr
  rw [hrN_bit _ _ _ _ _ _ _ (by omega), Nat.zero_testBit, Bool.false_or]
  congr 1
  rw [decide_eq_decide]
  omega
/-- half round, told of jugs and of what is taken apart -/
theorem hfB_iff {T : TB} {b : BD} {tk : Nat} (hj : tk &&& T.2.2.2 = 0) : hfB T b tk = (decide (hr b (T.2.2.2 &&& sqB b) = T.2.2.2 &&& sqB b) && decide (hr b (tk &&& sqB b) = tk &&& sqB b)) := by
  have hd : ∀ j, ¬ (tk.testBit j = true ∧ T.2.2.2.testBit j = true) := fun j h => by
    have := congrArg (fun z => z.testBit j) hj
    simp [h.1, h.2] at this
  unfold hfB
  rw [Bool.eq_iff_iff]
  simp only [Bool.and_eq_true, decide_eq_true_eq]
  have ho : hr b ((tk ||| T.2.2.2) &&& sqB b) = hr b (tk &&& sqB b) ||| hr b (T.2.2.2 &&& sqB b) := by
    have e : (tk ||| T.2.2.2) &&& sqB b = (tk &&& sqB b) ||| (T.2.2.2 &&& sqB b) := by
      apply Nat.eq_of_testBit_eq
      intro i
      simp only [Nat.testBit_and, Nat.testBit_or]
      cases tk.testBit i <;> cases T.2.2.2.testBit i <;> cases (sqB b).testBit i <;> rfl
    rw [e]
    exact hr_or _ _ _ _ _ _ 0 0
  constructor
  · rintro ⟨h1, h2⟩
    refine ⟨h2, ?_⟩
    apply Nat.eq_of_testBit_eq
    intro j
    have e1 := congrArg (fun z => z.testBit j) h1
    have e2 := congrArg (fun z => z.testBit j) h2
    rw [ho] at e1
    simp only [Nat.testBit_or, hr_bit, Nat.testBit_and] at e1 e2 ⊢
    have d1 := hd j
    have d2 := hd (2 * b.2.2.1 + b.1 * b.2.1 - 1 - j)
    revert e1 e2 d1 d2
    cases tk.testBit j <;> cases T.2.2.2.testBit j <;> cases (sqB b).testBit j <;> cases tk.testBit (2 * b.2.2.1 + b.1 * b.2.1 - 1 - j) <;> cases T.2.2.2.testBit (2 * b.2.2.1 + b.1 * b.2.1 - 1 - j) <;> cases (sqB b).testBit (2 * b.2.2.1 + b.1 * b.2.1 - 1 - j) <;> cases decide (b.2.2.1 ≤ j ∧ j < b.2.2.1 + b.1 * b.2.1) <;> simp
  · rintro ⟨h2, h1⟩
    refine ⟨?_, h2⟩
    rw [ho, h1, h2]
    apply Nat.eq_of_testBit_eq
    intro i
    simp only [Nat.testBit_and, Nat.testBit_or]
    cases tk.testBit i <;> cases T.2.2.2.testBit i <;> cases (sqB b).testBit i <;> rfl
theorem allL_j {T : TB} {e : LY} (h : e ∈ allL T) : eS e &&& T.2.2.2 = 0 := by
  obtain ⟨i, p, k', b, y', x', t', h1, h2, h3, h4, h5, h6, h7⟩ := lpL_mem _ _ e h
  obtain ⟨g1, g2, rfl⟩ := lay1_eq h7
  exact g2
theorem tkn_j {T : TB} (ls : List Nat) : tkn (allL T) ls &&& T.2.2.2 = 0 := by
  have h1 : ∀ a b c : Nat, a &&& c = 0 → b &&& c = 0 → (a ||| b) &&& c = 0 := fun a b c h1 h2 => by
    rw [Nat.and_comm, Nat.and_or_distrib_left, Nat.and_comm c a, Nat.and_comm c b, h1, h2]; rfl
  have h : ∀ (ls : List Nat) a, a &&& T.2.2.2 = 0 → ls.foldl (fun a n => a ||| sqN (allL T) n) a &&& T.2.2.2 = 0 := by
    intro ls
    induction ls with
    | nil => intro a h; exact h
    | cons n ls ih =>
      intro a h
      refine ih _ (h1 _ _ _ h ?_)
      unfold sqN
      cases e : (allL T)[n]? with
      | none => exact Nat.zero_and _
      | some e' => exact allL_j (List.mem_of_getElem? e)
  exact h ls 0 (Nat.zero_and _)
theorem hpT_my {T : TB} (h : hpT T = true) (e : LY) (tk who : Nat) : myE T e tk who = frE T e tk := by
  simp only [hpT, Bool.and_eq_true] at h
  have h0 : ow T e = 0 := by
    unfold ow
    cases hp : T.2.2.1[e.1]? with
    | none => rfl
    | some p =>
      have := List.all_eq_true.mp h.2 p (List.mem_of_getElem? hp)
      simpa using this
  simp [myE, h0]
section TBL
variable {l : Launch} {G : GG} {d : Nat} {σ : Hp} {Q : Nat → Prop} {X : TX} {T : TB}
theorem s_size {a n : Nat} {f : Nat → Nat} (h : LST Q σ a n f) {K : Int32 → Hp → Prop} (hK : K (nI n) σ) : C_Jx4a65c_size_8abf5 l G (d + 1) a σ K := by
  obtain ⟨-, md, da, N, g, h2, -⟩ := h
  refine m_Jx4a65c_size_8abf5 (rv_at h2 ⟨_, rfl⟩) ?_
  simp only [F_Jx4a65c_size_8abf5, fI_at (h2), fZ_at (h2), fJ_at (h2), fR_at (h2), fN_at (h2), pF_at (h2), rI13_0, rP13_0, rR13_1, rN13_1, rP13_1, rI13_2, rP13_2]
  exact hK
theorem s_get {a n i : Nat} {f : Nat → Nat} (h : LST Q σ a n f) (hi : i < n) {K : Nat → Hp → Prop} (hK : K (f i) σ) : C_Jx4a65c_get_915e3 l G (d + 4) a (nI i) σ K := by
  obtain ⟨-, md, da, N, g, h2, h3, h4, h5, h5', h6⟩ := h
  refine m_Jx4a65c_get_915e3 (rv_at h2 ⟨_, rfl⟩) ?_
  simp only [F_Jx4a65c_get_915e3, fI_at (h2), fZ_at (h2), fJ_at (h2), fR_at (h2), fN_at (h2), pF_at (h2), rI13_0, rP13_0, rR13_1, rN13_1, rP13_1, rI13_2, rP13_2]
  refine s_J15_checkIndex (nt_neg (by omega)) ((nt_lt (by omega) (by omega)).mpr hi) ?_
  refine m_Jx4a65c_elementData_915e3 (rv_at h2 ⟨_, rfl⟩) ?_
  simp only [F_Jx4a65c_elementData_915e3, fI_at (h2), fZ_at (h2), fJ_at (h2), fR_at (h2), fN_at (h2), pF_at (h2), rI13_0, rP13_0, rR13_1, rN13_1, rP13_1, rI13_2, rP13_2, gN_at h4, nI_clamp (show i < 2 ^ 31 by omega)]
  exact ⟨f i, (nt_in (by omega)).mpr (by omega), h6 i hi, hK⟩
theorem s_isEmpty {a n : Nat} {f : Nat → Nat} (h : LST Q σ a n f) {K : Bool → Hp → Prop} (hK : K (decide (n = 0)) σ) : C_Jx4a65c_isEmpty_aae02 l G (d + 1) a σ K := by
  obtain ⟨-, md, da, N, g, h2, h3, h4, h5, h5', h6⟩ := h
  refine m_Jx4a65c_isEmpty_aae02 (rv_at h2 ⟨_, rfl⟩) ?_
  simp only [F_Jx4a65c_isEmpty_aae02_12, F_Jx4a65c_isEmpty_aae02, fI_at (h2), fZ_at (h2), fJ_at (h2), fR_at (h2), fN_at (h2), pF_at (h2), rI13_0, rP13_0, rR13_1, rN13_1, rP13_1, rI13_2, rP13_2]
  rw [nt_0 (by omega)]
  exact ⟨fun c => kif hK (by simp [c]), fun c => kif hK (by simp [c])⟩
/-- the address of a thing numbered v, if there is one -/
theorem s_X8_boardAt (hX : TBr Q σ X T) (hW : WFT T) {v : Int32} {K : Option Nat → Hp → Prop} (hK : K ((ix v T.2.1.length).map (xb X)) σ) : C_X8_boardAt l G (d + 5) (xT X) v σ K := by
  obtain ⟨⟨-, h0⟩, hB, -, hb, -⟩ := hX
  have h3 := hW.1.1
  refine m_X8_boardAt (rv_at h0 ⟨_, rfl⟩) ?_
  simp only [F_X8_boardAt_30, F_X8_boardAt_29, F_X8_boardAt, fI_at (h0), fZ_at (h0), fJ_at (h0), fR_at (h0), fN_at (h0), pF_at (h0), rZ8_0, rP8_0, rZ8_1, rP8_1, rZ8_2, rP8_2, rR8_3, rN8_3, rP8_3, rR8_4, rN8_4, rP8_4, rI8_5, rP8_5, rI8_6, rP8_6, rZ8_7, rP8_7, rR8_8, rN8_8, rP8_8]
  refine ⟨fun c1 => ?_, fun c1 => s_size (d := d + 3) hB ?_⟩
  · rw [ix, if_neg fun c => c.1 c1] at hK; exact hK
  · obtain ⟨i, hi, rfl⟩ := nt_of c1
    simp only [fI_at (h0), fZ_at (h0), fJ_at (h0), fR_at (h0), fN_at (h0), pF_at (h0), rZ8_0, rP8_0, rZ8_1, rP8_1, rZ8_2, rP8_2, rR8_3, rN8_3, rP8_3, rR8_4, rN8_4, rP8_4, rI8_5, rP8_5, rI8_6, rP8_6, rZ8_7, rP8_7, rR8_8, rN8_8, rP8_8]
    rw [ix_nI hi (by omega)] at hK
    rw [nt_le (by omega) hi]
    refine ⟨fun c2 => ?_, fun c2 => s_get (d := d) hB (by omega) ?_⟩
    · rw [if_neg (by omega)] at hK; exact hK
    · rw [if_pos (by omega)] at hK
      obtain ⟨b, hbk⟩ : ∃ b, T.2.1[i]? = some b := ⟨_, List.getElem?_eq_getElem (by omega)⟩
      obtain ⟨-, nm, hc⟩ := hb i b hbk
      exact ⟨rv_at hc ⟨_, rfl⟩, hK⟩
theorem s_X8_pieceAt (hX : TBr Q σ X T) (hW : WFT T) {v : Int32} {K : Option Nat → Hp → Prop} (hK : K ((ix v T.2.2.1.length).map (xp X)) σ) : C_X8_pieceAt l G (d + 5) (xT X) v σ K := by
  obtain ⟨⟨-, h0⟩, -, hB, -, hb, -⟩ := hX
  have h3 := hW.2.1.1
  refine m_X8_pieceAt (rv_at h0 ⟨_, rfl⟩) ?_
  simp only [F_X8_pieceAt_30, F_X8_pieceAt_29, F_X8_pieceAt, fI_at (h0), fZ_at (h0), fJ_at (h0), fR_at (h0), fN_at (h0), pF_at (h0), rZ8_0, rP8_0, rZ8_1, rP8_1, rZ8_2, rP8_2, rR8_3, rN8_3, rP8_3, rR8_4, rN8_4, rP8_4, rI8_5, rP8_5, rI8_6, rP8_6, rZ8_7, rP8_7, rR8_8, rN8_8, rP8_8]
  refine ⟨fun c1 => ?_, fun c1 => s_size (d := d + 3) hB ?_⟩
  · rw [ix, if_neg fun c => c.1 c1] at hK; exact hK
  · obtain ⟨i, hi, rfl⟩ := nt_of c1
    simp only [fI_at (h0), fZ_at (h0), fJ_at (h0), fR_at (h0), fN_at (h0), pF_at (h0), rZ8_0, rP8_0, rZ8_1, rP8_1, rZ8_2, rP8_2, rR8_3, rN8_3, rP8_3, rR8_4, rN8_4, rP8_4, rI8_5, rP8_5, rI8_6, rP8_6, rZ8_7, rP8_7, rR8_8, rN8_8, rP8_8]
    rw [ix_nI hi (by omega)] at hK
    rw [nt_le (by omega) hi]
    refine ⟨fun c2 => ?_, fun c2 => s_get (d := d) hB (by omega) ?_⟩
    · rw [if_neg (by omega)] at hK; exact hK
    · rw [if_pos (by omega)] at hK
      obtain ⟨b, hbk⟩ : ∃ b, T.2.2.1[i]? = some b := ⟨_, List.getElem?_eq_getElem (by omega)⟩
      obtain ⟨-, nm, hc⟩ := hb i b hbk
      exact ⟨rv_at hc ⟨_, rfl⟩, hK⟩
theorem allL_224 {T : TB} (hW : WFT T) : (allL T).length ≤ 224 := by
  have h : ∀ r k, k + r = T.2.2.1.length → (lpL T r k).length ≤ 56 * r := by
    intro r
    induction r with
    | zero => intro k _; simp [lpL]
    | succ r ih =>
      intro k hk
      obtain ⟨p, hp⟩ : ∃ p, T.2.2.1[k]? = some p := ⟨_, List.getElem?_eq_getElem (by omega)⟩
      have h1 : ∀ r k, k + r = T.2.1.length → (lbL T 0 p r k).length ≤ 4 * nsq (T.2.1.drop k) := by
        intro r
        induction r with
        | zero => intro k _; simp [lbL]
        | succ r ih =>
          intro k hk
          obtain ⟨b, hbd⟩ : ∃ b, T.2.1[k]? = some b := ⟨_, List.getElem?_eq_getElem (by omega)⟩
          have h5 := lyL_len (j := T.2.2.2) (pi := 0) (bi := k) (p := p) (b := b) b.2.1 0
          have h6 := ih (k + 1) (by omega)
          have h7 := nsq_drop hbd
          simp only [lbL, hbd, List.length_append]
          omega
      have h2 : ∀ pi r k, k + r = T.2.1.length → (lbL T pi p r k).length ≤ 4 * nsq (T.2.1.drop k) := by
        intro pi r
        induction r with
        | zero => intro k _; simp [lbL]
        | succ r ih =>
          intro k hk
          obtain ⟨b, hbd⟩ : ∃ b, T.2.1[k]? = some b := ⟨_, List.getElem?_eq_getElem (by omega)⟩
          have h5 := lyL_len (j := T.2.2.2) (pi := pi) (bi := k) (p := p) (b := b) b.2.1 0
          have h6 := ih (k + 1) (by omega)
          have h7 := nsq_drop hbd
          simp only [lbL, hbd, List.length_append]
          omega
      have h3 := h2 k T.2.1.length 0 (by omega)
      have h4 := ih (k + 1) (by omega)
      have h5 := hW.1.2.1
      rw [List.drop_zero] at h3
      simp only [lpL, hp, List.length_append]
      omega
  have := h T.2.2.1.length 0 (by omega)
  have := hW.2.1.1
  unfold allL
  omega
/-- what a table's lays' array and its lays are -/
theorem TBr.lay (hX : TBr Q σ X T) {i : Nat} {e : LY} (he : (allL T)[i]? = some e) : ∃ g, σ (xL' X) = some (rA 3 (allL T).length g) ∧ g i = some (xl X i) ∧ σ (xl X i) = some (LYc T i (xp X e.1) (xb X e.2.1) e ((acr T (allL T) e).map (xl X))) := by
  obtain ⟨-, -, -, -, -, ⟨-, g, g1, g2⟩, h⟩ := hX
  exact ⟨g, g1, g2 i (List.getElem?_eq_some_iff.mp he).1, (h i e he).2⟩
theorem TBr.gN (hX : TBr Q σ X T) (hW : WFT T) {i : Nat} {e : LY} (he : (allL T)[i]? = some e) {K : Nat → Prop} (hK : K (xl X i)) : Jvm.Pilot.CCoinsLaidLaw_law_r4080_fdb2f8.gN 3 σ (xL' X) (nI i) K := by
  obtain ⟨g, g1, g2, -⟩ := hX.lay he
  have hi := (List.getElem?_eq_some_iff.mp he).1
  have h224 := allL_224 hW
  rw [gN_at g1]
  exact ⟨_, (nt_in (by omega)).mpr hi, by rw [nI_clamp (by omega)]; exact g2, hK⟩
theorem TBr.my (hX : TBr Q σ X T) (hW : WFT T) {i tk who : Nat} {e : LY} (he : (allL T)[i]? = some e) (htk : tk < 2 ^ 31) (hwho : who < 2) {K : Bool → Hp → Prop} (hK : K (myE T e tk who) σ) : C_X2_mayBe l G (d + 2) (xl X i) (nI tk) (nI who) σ K := by
  obtain ⟨g, g1, g2, g3⟩ := hX.lay he
  obtain ⟨⟨p, hp⟩, -⟩ := allL_VL hW i e he
  obtain ⟨-, nm, hc⟩ := hX.2.2.2.2.1 _ p hp
  exact s_X2_mayBe g3 hc hp (hW.PB hp).2.2.2.2.2 htk hwho hK
theorem TBr.fr (hX : TBr Q σ X T) {i tk : Nat} {e : LY} (he : (allL T)[i]? = some e) (htk : tk < 2 ^ 31) {K : Bool → Hp → Prop} (hK : K (frE T e tk) σ) : C_X2_hasRoom l G (d + 1) (xl X i) (nI tk) σ K := by
  obtain ⟨g, g1, g2, g3⟩ := hX.lay he
  exact s_X2_hasRoom g3 htk hK
theorem TBr.aL (hX : TBr Q σ X T) {K : Int32 → Prop} : Jvm.Pilot.CCoinsLaidLaw_law_r4080_fdb2f8.aL σ (xL' X) K = K (nI (allL T).length) := by
  obtain ⟨-, -, -, -, -, ⟨-, g, g1, g2⟩, h⟩ := hX
  exact aL_r g1
theorem s_X8_layNumbered (hX : TBr Q σ X T) (hW : WFT T) {v : Int32} {K : Option Nat → Hp → Prop} (hK : K ((ix v (allL T).length).map (xl X)) σ) : C_X8_layNumbered l G (d + 1) (xT X) v σ K := by
  have h224 := allL_224 hW
  have h0 := hX.1.2
  refine m_X8_layNumbered (rv_at h0 ⟨_, rfl⟩) ?_
  simp only [F_X8_layNumbered_23, F_X8_layNumbered_22, F_X8_layNumbered, fI_at (h0), fZ_at (h0), fJ_at (h0), fR_at (h0), fN_at (h0), pF_at (h0), rZ8_0, rP8_0, rZ8_1, rP8_1, rZ8_2, rP8_2, rR8_3, rN8_3, rP8_3, rR8_4, rN8_4, rP8_4, rI8_5, rP8_5, rI8_6, rP8_6, rZ8_7, rP8_7, rR8_8, rN8_8, rP8_8, hX.aL]
  refine ⟨fun c1 => ?_, fun c1 => ?_⟩
  · rw [ix, if_neg fun c => c.1 c1] at hK; exact hK
  · obtain ⟨i, hi, rfl⟩ := nt_of c1
    rw [ix_nI hi (by omega)] at hK
    rw [nt_le (by omega) hi]
    refine ⟨fun c2 => ?_, fun c2 => ?_⟩
    · rw [if_neg (by omega)] at hK; exact hK
    · rw [if_pos (by omega)] at hK
      obtain ⟨e, he⟩ : ∃ e, (allL T)[i]? = some e := ⟨_, List.getElem?_eq_getElem (by omega)⟩
      exact hX.gN hW he hK
theorem s_X8_layAtPlace (hX : TBr Q σ X T) (hW : WFT T) {p k x y t : Int32} {K : Option Nat → Hp → Prop} (hK : K ((mAt (isA p k x y t) (allL T) 0 0).map (xl X)) σ) : C_X8_layAtPlace l G (d + 2) (xT X) p k x y t σ K := by
  have h224 := allL_224 hW
  have h0 := hX.1.2
  have hz : ∀ r i, i + r = (allL T).length → K ((mAt (isA p k x y t) ((allL T).drop i) i 0).map (xl X)) σ → Z_X8_layAtPlace_14 l G (d + 1) K (r + 1) p k x y t (xL' X) (nI (allL T).length) (nI i) σ := by
    intro r
    induction r with
    | zero =>
      intro i hi h
      rw [List.drop_eq_nil_of_le (by omega)] at h
      simp only [Z_X8_layAtPlace_14, F_X8_layAtPlace_14]
      rw [nt_le (by omega) (by omega)]
      exact ⟨fun _ => h, fun hc => absurd (by omega) hc⟩
    | succ r ih =>
      intro i hi h
      obtain ⟨e, he⟩ : ∃ e, (allL T)[i]? = some e := ⟨_, List.getElem?_eq_getElem (by omega)⟩
      obtain ⟨g, g1, g2, g3⟩ := hX.lay he
      obtain ⟨⟨q, hq⟩, ⟨b, hb⟩, -⟩ := allL_VL hW i e he
      obtain ⟨-, nm, hc⟩ := hX.2.2.2.2.1 _ q hq
      obtain ⟨-, nm2, hc2⟩ := hX.2.2.2.1 _ b hb
      rw [drop_at he] at h
      simp only [mAt, if_true] at h
      have hno : isA p k x y t e = false → Z_X8_layAtPlace_14 l G (d + 1) K (r + 1) p k x y t (xL' X) (nI (allL T).length) (nI (i + 1)) σ := fun hf => ih (i + 1) (by omega) (by rwa [if_neg (by rw [hf]; decide)] at h)
      rw [show r + 1 + 1 = (r + 1) + 1 from rfl, Z_X8_layAtPlace_14]
      simp only [F_X8_layAtPlace_14, F_X8_layAtPlace_68, show nI i + 1 = nI (i + 1) from nt_add i 1]
      rw [nt_le (by omega) (by omega)]
      refine ⟨fun hc => by omega, fun _ => hX.gN hW he ?_⟩
      simp only [fI_at (g3), fZ_at (g3), fJ_at (g3), fR_at (g3), fN_at (g3), pF_at (g3), rI2_0, rP2_0, rR2_1, rN2_1, rP2_1, rR2_2, rN2_2, rP2_2, rI2_3, rP2_3, rI2_4, rP2_4, rI2_5, rP2_5, rI2_6, rP2_6, rI2_7, rP2_7, rR2_8, rN2_8, rP2_8, fI_at (hc), fZ_at (hc), fJ_at (hc), fR_at (hc), fN_at (hc), pF_at (hc), rI5_0, rP5_0, rJ5_1, rP5_1, rI5_2, rP5_2, rI5_3, rP5_3, rI5_4, rP5_4, rZ5_5, rP5_5, rI5_6, rP5_6, fI_at (hc2), fZ_at (hc2), fJ_at (hc2), fR_at (hc2), fN_at (hc2), pF_at (hc2), rI0_0, rP0_0, rJ0_1, rP0_1, rI0_2, rP0_2, rI0_3, rP0_3, rI0_4, rP0_4]
      refine ⟨fun h1 => hno (by simp [isA, h1]), fun h1 => ⟨fun h2 => hno (by simp [isA, h2]), fun h2 => ?_⟩⟩
      refine m_X2_isAt (rv_at g3 ⟨_, rfl⟩) ?_
      simp only [F_X2_isAt_29, F_X2_isAt_28, F_X2_isAt, fI_at (g3), fZ_at (g3), fJ_at (g3), fR_at (g3), fN_at (g3), pF_at (g3), rI2_0, rP2_0, rR2_1, rN2_1, rP2_1, rR2_2, rN2_2, rP2_2, rI2_3, rP2_3, rI2_4, rP2_4, rI2_5, rP2_5, rI2_6, rP2_6, rI2_7, rP2_7, rR2_8, rN2_8, rP2_8, reduceCtorEq, false_implies, true_implies, forall_const, true_and, and_true, eq_self]
      refine ⟨fun h3 => hno (by simp [isA, h3]), fun h3 => ⟨fun h4 => hno (by simp [isA, h4]), fun h4 => ⟨fun h5 => hno (by simp [isA, h5]), fun h5 => ?_⟩⟩⟩
      rw [if_pos (by simp [isA, h1, h2, h3, h4, h5])] at h
      exact h
  refine m_X8_layAtPlace (rv_at h0 ⟨_, rfl⟩) ?_
  simp only [F_X8_layAtPlace, fI_at (h0), fZ_at (h0), fJ_at (h0), fR_at (h0), fN_at (h0), pF_at (h0), rZ8_0, rP8_0, rZ8_1, rP8_1, rZ8_2, rP8_2, rR8_3, rN8_3, rP8_3, rR8_4, rN8_4, rP8_4, rI8_5, rP8_5, rI8_6, rP8_6, rZ8_7, rP8_7, rR8_8, rN8_8, rP8_8, hX.aL]
  exact ⟨_, hz (allL T).length 0 (by omega) hK⟩
theorem s_X8_countThatMay (hX : TBr Q σ X T) (hW : WFT T) {tk who : Nat} (htk : tk < 2 ^ 31) (hwho : who < 2) {K : Int32 → Hp → Prop} (hK : K (nI (mvs T (allL T) tk who).length) σ) : C_X8_countThatMay l G (d + 3) (xT X) (nI tk) (nI who) σ K := by
  have h224 := allL_224 hW
  have h0 := hX.1.2
  have hz : ∀ r i c, i + r = (allL T).length → K (nI (c + (((allL T).drop i).filter fun e => myE T e tk who).length)) σ → Z_X8_countThatMay_16 l G (d + 2) K (r + 1) (nI tk) (nI who) (nI c) (xL' X) (nI (allL T).length) (nI i) σ := by
    intro r
    induction r with
    | zero =>
      intro i c hi h
      rw [List.drop_eq_nil_of_le (by omega)] at h
      simp only [Z_X8_countThatMay_16, F_X8_countThatMay_16]
      rw [nt_le (by omega) (by omega)]
      exact ⟨fun _ => h, fun hc => absurd (by omega) hc⟩
    | succ r ih =>
      intro i c hi h
      obtain ⟨e, he⟩ : ∃ e, (allL T)[i]? = some e := ⟨_, List.getElem?_eq_getElem (by omega)⟩
      rw [drop_at he, List.filter_cons] at h
      rw [show r + 1 + 1 = (r + 1) + 1 from rfl, Z_X8_countThatMay_16]
      simp only [F_X8_countThatMay_16, F_X8_countThatMay_43, show nI i + 1 = nI (i + 1) from nt_add i 1, show nI c + 1 = nI (c + 1) from nt_add c 1]
      rw [nt_le (by omega) (by omega)]
      refine ⟨fun hc => by omega, fun _ => hX.gN hW he (hX.my hW he htk hwho ⟨fun h1 => ?_, fun h1 => ?_⟩)⟩
      · rw [if_neg (by rw [h1]; decide)] at h
        exact ih (i + 1) c (by omega) h
      · rw [if_pos h1, List.length_cons] at h
        exact ih (i + 1) (c + 1) (by omega) (by rwa [Nat.add_assoc, Nat.add_comm 1])
  refine m_X8_countThatMay (rv_at h0 ⟨_, rfl⟩) ?_
  simp only [F_X8_countThatMay, fI_at (h0), fZ_at (h0), fJ_at (h0), fR_at (h0), fN_at (h0), pF_at (h0), rZ8_0, rP8_0, rZ8_1, rP8_1, rZ8_2, rP8_2, rR8_3, rN8_3, rP8_3, rR8_4, rN8_4, rP8_4, rI8_5, rP8_5, rI8_6, rP8_6, rZ8_7, rP8_7, rR8_8, rN8_8, rP8_8, hX.aL]
  exact ⟨_, hz (allL T).length 0 0 (by omega) (by rw [Nat.zero_add]; exact hK)⟩
theorem s_X8_thatMay (hX : TBr Q σ X T) (hW : WFT T) {tk who w : Nat} (htk : tk < 2 ^ 31) (hwho : who < 2) (hw : w < 2 ^ 31) {K : Option Nat → Hp → Prop} (hK : K ((mAt (fun e => myE T e tk who) (allL T) 0 w).map (xl X)) σ) : C_X8_thatMay l G (d + 3) (xT X) (nI tk) (nI who) (nI w) σ K := by
  have h224 := allL_224 hW
  have h0 := hX.1.2
  have hz : ∀ r i c, i + r = (allL T).length → c < 2 ^ 31 → K ((mAt (fun e => myE T e tk who) ((allL T).drop i) i c).map (xl X)) σ → Z_X8_thatMay_17 l G (d + 2) K (r + 1) (nI tk) (nI who) (nI c) (xL' X) (nI (allL T).length) (nI i) σ := by
    intro r
    induction r with
    | zero =>
      intro i c hi hc h
      rw [List.drop_eq_nil_of_le (by omega)] at h
      simp only [Z_X8_thatMay_17, F_X8_thatMay_17]
      rw [nt_le (by omega) (by omega)]
      exact ⟨fun _ => h, fun hc => absurd (by omega) hc⟩
    | succ r ih =>
      intro i c hi hc h
      obtain ⟨e, he⟩ : ∃ e, (allL T)[i]? = some e := ⟨_, List.getElem?_eq_getElem (by omega)⟩
      rw [drop_at he] at h
      simp only [mAt] at h
      rw [show r + 1 + 1 = (r + 1) + 1 from rfl, Z_X8_thatMay_17]
      simp only [F_X8_thatMay_17, F_X8_thatMay_52, show nI i + 1 = nI (i + 1) from nt_add i 1]
      rw [nt_le (by omega) (by omega), nt_0 hc]
      refine ⟨fun hc => by omega, fun _ => hX.gN hW he (hX.my hW he htk hwho ⟨fun h1 => ?_, fun h1 => ⟨fun h2 => ?_, fun h2 => ?_⟩⟩)⟩
      · rw [if_neg (by rw [h1]; decide)] at h
        exact ih (i + 1) c (by omega) hc h
      · rw [if_pos h1, if_neg h2] at h
        obtain ⟨c', rfl⟩ : ∃ c', c = c' + 1 := ⟨c - 1, by omega⟩
        rw [nt_m1]
        exact ih (i + 1) c' (by omega) (by omega) h
      · rw [if_pos h1, if_pos h2] at h
        exact h
  refine m_X8_thatMay (rv_at h0 ⟨_, rfl⟩) ?_
  simp only [F_X8_thatMay, fI_at (h0), fZ_at (h0), fJ_at (h0), fR_at (h0), fN_at (h0), pF_at (h0), rZ8_0, rP8_0, rZ8_1, rP8_1, rZ8_2, rP8_2, rR8_3, rN8_3, rP8_3, rR8_4, rN8_4, rP8_4, rI8_5, rP8_5, rI8_6, rP8_6, rZ8_7, rP8_7, rR8_8, rN8_8, rP8_8, hX.aL]
  exact ⟨_, hz (allL T).length 0 w (by omega) hw hK⟩
theorem s_X8_deadSquares (hX : TBr Q σ X T) (hW : WFT T) {tk : Nat} (htk : tk < 2 ^ 31) {K : Int32 → Hp → Prop} (hK : K (nI (an (2 ^ nsq T.2.1 - 1) (orS ((allL T).filter fun e => frE T e tk) (tk ||| T.2.2.2)))) σ) : C_X8_deadSquares l G (d + 2) (xT X) (nI tk) σ K := by
  have h224 := allL_224 hW
  have h0 := hX.1.2
  have h14 := hW.1.2.1
  have hp : 2 ^ nsq T.2.1 ≤ 2 ^ 14 := Nat.pow_le_pow_right (by decide) h14
  have hp0 : 0 < 2 ^ nsq T.2.1 := Nat.two_pow_pos _
  have orS_or : ∀ (es : List LY) a b, orS es (a ||| b) = a ||| orS es b := by
    intro es
    induction es with
    | nil => intro a b; rfl
    | cons e es ih => intro a b; simp only [orS, List.foldl_cons] at ih ⊢; rw [Nat.or_assoc, ih]
  have hz : ∀ r i a, i + r = (allL T).length → K (nI (an (2 ^ nsq T.2.1 - 1) (tk ||| T.2.2.2 ||| orS (((allL T).drop i).filter fun e => frE T e tk) a))) σ → Z_X8_deadSquares_14 l G (d + 1) K (r + 1) (xT X) (nI tk) (nI a) (xL' X) (nI (allL T).length) (nI i) σ := by
    intro r
    induction r with
    | zero =>
      intro i a hi h
      rw [List.drop_eq_nil_of_le (by omega)] at h
      simp only [Z_X8_deadSquares_14, F_X8_deadSquares_14, fI_at (h0), fZ_at (h0), fJ_at (h0), fR_at (h0), fN_at (h0), pF_at (h0), rZ8_0, rP8_0, rZ8_1, rP8_1, rZ8_2, rP8_2, rR8_3, rN8_3, rP8_3, rR8_4, rN8_4, rP8_4, rI8_5, rP8_5, rI8_6, rP8_6, rZ8_7, rP8_7, rR8_8, rN8_8, rP8_8]
      rw [nt_le (by omega) (by omega), nt_one (by omega), show (nI (2 ^ nsq T.2.1) - 1 : Int32) = nI (2 ^ nsq T.2.1 - 1) from nt_sub (b := 1) (by omega) (by omega), nt_or, nt_or, nt_an]
      exact ⟨fun _ => h, fun hc => absurd (by omega) hc⟩
    | succ r ih =>
      intro i a hi h
      obtain ⟨e, he⟩ : ∃ e, (allL T)[i]? = some e := ⟨_, List.getElem?_eq_getElem (by omega)⟩
      obtain ⟨g, g1, g2, g3⟩ := hX.lay he
      rw [drop_at he, List.filter_cons] at h
      rw [show r + 1 + 1 = (r + 1) + 1 from rfl, Z_X8_deadSquares_14]
      simp only [F_X8_deadSquares_14, F_X8_deadSquares_44, show nI i + 1 = nI (i + 1) from nt_add i 1]
      rw [nt_le (by omega) (by omega)]
      refine ⟨fun hc => by omega, fun _ => hX.gN hW he (hX.fr he htk ?_)⟩
      simp only [fI_at (g3), fZ_at (g3), fJ_at (g3), fR_at (g3), fN_at (g3), pF_at (g3), rI2_0, rP2_0, rR2_1, rN2_1, rP2_1, rR2_2, rN2_2, rP2_2, rI2_3, rP2_3, rI2_4, rP2_4, rI2_5, rP2_5, rI2_6, rP2_6, rI2_7, rP2_7, rR2_8, rN2_8, rP2_8, nt_or]
      refine ⟨fun h1 => ?_, fun h1 => ?_⟩
      · rw [if_neg (by rw [h1]; decide)] at h
        exact ih (i + 1) a (by omega) h
      · rw [if_pos h1] at h
        exact ih (i + 1) _ (by omega) h
  refine m_X8_deadSquares (rv_at h0 ⟨_, rfl⟩) ?_
  simp only [F_X8_deadSquares, fI_at (h0), fZ_at (h0), fJ_at (h0), fR_at (h0), fN_at (h0), pF_at (h0), rZ8_0, rP8_0, rZ8_1, rP8_1, rZ8_2, rP8_2, rR8_3, rN8_3, rP8_3, rR8_4, rN8_4, rP8_4, rI8_5, rP8_5, rI8_6, rP8_6, rZ8_7, rP8_7, rR8_8, rN8_8, rP8_8, hX.aL]
  refine ⟨_, hz (allL T).length 0 0 (by omega) ?_⟩
  rw [← orS_or, Nat.or_zero]
  exact hK
theorem s_X8_countSpoiled (hX : TBr Q σ X T) (hW : WFT T) {tk n : Nat} {en : LY} (hn : (allL T)[n]? = some en) (htk : tk < 16384) {K : Int32 → Hp → Prop} (hK : K (nI ((allL T).filter fun o => frE T o tk && !frE T o (tk ||| eS en)).length) σ) : C_X8_countSpoiled l G (d + 2) (xT X) (nI tk) (xl X n) σ K := by
  have h224 := allL_224 hW
  have h0 := hX.1.2
  obtain ⟨-, -, u1, u2, -⟩ := allL_VL hW n en hn
  obtain ⟨gn, gn1, gn2, gn3⟩ := hX.lay hn
  have hz : ∀ r i c, i + r = (allL T).length → K (nI (c + (((allL T).drop i).filter fun o => frE T o tk && !frE T o (tk ||| eS en)).length)) σ → Z_X8_countSpoiled_16 l G (d + 1) K (r + 1) (nI tk) (xl X n) (nI c) (xL' X) (nI (allL T).length) (nI i) σ := by
    intro r
    induction r with
    | zero =>
      intro i c hi h
      rw [List.drop_eq_nil_of_le (by omega)] at h
      simp only [Z_X8_countSpoiled_16, F_X8_countSpoiled_16]
      rw [nt_le (by omega) (by omega)]
      exact ⟨fun _ => h, fun hc => absurd (by omega) hc⟩
    | succ r ih =>
      intro i c hi h
      obtain ⟨e, he⟩ : ∃ e, (allL T)[i]? = some e := ⟨_, List.getElem?_eq_getElem (by omega)⟩
      rw [drop_at he, List.filter_cons] at h
      have hno : (frE T e tk && !frE T e (tk ||| eS en)) = false → Z_X8_countSpoiled_16 l G (d + 1) K (r + 1) (nI tk) (xl X n) (nI c) (xL' X) (nI (allL T).length) (nI (i + 1)) σ := fun hf => ih (i + 1) c (by omega) (by rwa [if_neg (by rw [hf]; decide)] at h)
      rw [show r + 1 + 1 = (r + 1) + 1 from rfl, Z_X8_countSpoiled_16]
      simp only [F_X8_countSpoiled_16, F_X8_countSpoiled_56, show nI i + 1 = nI (i + 1) from nt_add i 1, show nI c + 1 = nI (c + 1) from nt_add c 1]
      rw [nt_le (by omega) (by omega)]
      refine ⟨fun hc => by omega, fun _ => hX.gN hW he (hX.fr he (by omega) ⟨fun h1 => hno (by rw [h1]; rfl), fun h1 => ?_⟩)⟩
      simp only [fI_at (gn3), fZ_at (gn3), fJ_at (gn3), fR_at (gn3), fN_at (gn3), pF_at (gn3), rI2_0, rP2_0, rR2_1, rN2_1, rP2_1, rR2_2, rN2_2, rP2_2, rI2_3, rP2_3, rI2_4, rP2_4, rI2_5, rP2_5, rI2_6, rP2_6, rI2_7, rP2_7, rR2_8, rN2_8, rP2_8, nt_or]
      refine hX.fr he (Nat.lt_of_lt_of_le (Nat.or_lt_two_pow (n := 14) htk u2) (by decide)) ⟨fun h2 => hno ?_, fun h2 => ?_⟩
      · have h2' : frE T e (tk ||| eS en) = true := h2
        rw [h1, h2']; rfl
      · have h2' : frE T e (tk ||| eS en) = false := h2
        rw [if_pos (show (frE T e tk && !frE T e (tk ||| eS en)) = true by rw [h1, h2']; rfl), List.length_cons] at h
        exact ih (i + 1) (c + 1) (by omega) (by rwa [Nat.add_assoc, Nat.add_comm 1])
  refine m_X8_countSpoiled (rv_at h0 ⟨_, rfl⟩) ?_
  simp only [F_X8_countSpoiled, fI_at (h0), fZ_at (h0), fJ_at (h0), fR_at (h0), fN_at (h0), pF_at (h0), rZ8_0, rP8_0, rZ8_1, rP8_1, rZ8_2, rP8_2, rR8_3, rN8_3, rP8_3, rR8_4, rN8_4, rP8_4, rI8_5, rP8_5, rI8_6, rP8_6, rZ8_7, rP8_7, rR8_8, rN8_8, rP8_8, hX.aL]
  exact ⟨_, hz (allL T).length 0 0 (by omega) (by rw [Nat.zero_add]; exact hK)⟩
theorem s_X8_countOpen (hX : TBr Q σ X T) (hW : WFT T) {tk q : Nat} (hq : q < 14) (htk : tk < 2 ^ 31) {K : Int32 → Hp → Prop} (hK : K (nI ((allL T).filter fun o => (eS o).testBit q && frE T o tk).length) σ) : C_X8_countOpen l G (d + 2) (xT X) (nI tk) (nI q) σ K := by
  have h224 := allL_224 hW
  have h0 := hX.1.2
  have hz : ∀ r i c, i + r = (allL T).length → K (nI (c + (((allL T).drop i).filter fun o => (eS o).testBit q && frE T o tk).length)) σ → Z_X8_countOpen_16 l G (d + 1) K (r + 1) (nI tk) (nI q) (nI c) (xL' X) (nI (allL T).length) (nI i) σ := by
    intro r
    induction r with
    | zero =>
      intro i c hi h
      rw [List.drop_eq_nil_of_le (by omega)] at h
      simp only [Z_X8_countOpen_16, F_X8_countOpen_16]
      rw [nt_le (by omega) (by omega)]
      exact ⟨fun _ => h, fun hc => absurd (by omega) hc⟩
    | succ r ih =>
      intro i c hi h
      obtain ⟨e, he⟩ : ∃ e, (allL T)[i]? = some e := ⟨_, List.getElem?_eq_getElem (by omega)⟩
      obtain ⟨g, g1, g2, g3⟩ := hX.lay he
      obtain ⟨-, -, u1, u2, -⟩ := allL_VL hW i e he
      rw [drop_at he, List.filter_cons] at h
      have hno : ((eS e).testBit q && frE T e tk) = false → Z_X8_countOpen_16 l G (d + 1) K (r + 1) (nI tk) (nI q) (nI c) (xL' X) (nI (allL T).length) (nI (i + 1)) σ := fun hf => ih (i + 1) c (by omega) (by rwa [if_neg (by rw [hf]; decide)] at h)
      rw [show r + 1 + 1 = (r + 1) + 1 from rfl, Z_X8_countOpen_16]
      simp only [F_X8_countOpen_16, F_X8_countOpen_54, show nI i + 1 = nI (i + 1) from nt_add i 1, show nI c + 1 = nI (c + 1) from nt_add c 1]
      rw [nt_le (by omega) (by omega)]
      refine ⟨fun hc => by omega, fun _ => hX.gN hW he (hX.fr he htk ?_)⟩
      simp only [fI_at (g3), fZ_at (g3), fJ_at (g3), fR_at (g3), fN_at (g3), pF_at (g3), rI2_0, rP2_0, rR2_1, rN2_1, rP2_1, rR2_2, rN2_2, rP2_2, rI2_3, rP2_3, rI2_4, rP2_4, rI2_5, rP2_5, rI2_6, rP2_6, rI2_7, rP2_7, rR2_8, rN2_8, rP2_8]
      have hb : ((nI (eS e) >>> (nI q &&& 31)) &&& 1 = 0) ↔ (eS e).testBit q = false := by
        rw [nt_sh5 (by omega), nt_shr (Nat.lt_of_lt_of_le u2 (by decide)) (by omega), show (1 : Int32) = nI 1 from rfl, nt_and, Nat.and_one_is_mod, nt_0 (by omega), Nat.testBit_eq_decide_div_mod_eq]
        simp
      refine ⟨fun h1 => hno (by rw [h1, Bool.and_false]), fun h1 => ⟨fun h2 => hno (by rw [hb.mp h2]; rfl), fun h2 => ?_⟩⟩
      have h3 : (eS e).testBit q = true := by
        cases h4 : (eS e).testBit q with
        | true => rfl
        | false => exact absurd (hb.mpr h4) h2
      rw [if_pos (by rw [h1, h3]; rfl), List.length_cons] at h
      exact ih (i + 1) (c + 1) (by omega) (by rwa [Nat.add_assoc, Nat.add_comm 1])
  refine m_X8_countOpen (rv_at h0 ⟨_, rfl⟩) ?_
  simp only [F_X8_countOpen, fI_at (h0), fZ_at (h0), fJ_at (h0), fR_at (h0), fN_at (h0), pF_at (h0), rZ8_0, rP8_0, rZ8_1, rP8_1, rZ8_2, rP8_2, rR8_3, rN8_3, rP8_3, rR8_4, rN8_4, rP8_4, rI8_5, rP8_5, rI8_6, rP8_6, rZ8_7, rP8_7, rR8_8, rN8_8, rP8_8, hX.aL]
  exact ⟨_, hz (allL T).length 0 0 (by omega) (by rw [Nat.zero_add]; exact hK)⟩
theorem s_X8_isHeap (hX : TBr Q σ X T) (hW : WFT T) {K : Bool → Hp → Prop} (hK : K (hpT T) σ) : C_X8_isHeap l G (d + 5) (xT X) σ K := by
  have h0 := hX.1.2
  have h4 := hW.2.1.1
  have hP := hX.2.2.1
  unfold hpT at hK
  have hz : ∀ r i, i + r = T.2.2.1.length → K ((T.2.2.1.drop i).all fun p => decide (p.2.2.2.2.1 = 0)) σ → Z_X8_isHeap_11 l G (d + 4) K (r + 1) (xT X) (nI i) σ := by
    intro r
    induction r with
    | zero =>
      intro i hi h
      rw [List.drop_eq_nil_of_le (by omega)] at h
      simp only [Z_X8_isHeap_11, F_X8_isHeap_11, fI_at (h0), fZ_at (h0), fJ_at (h0), fR_at (h0), fN_at (h0), pF_at (h0), rZ8_0, rP8_0, rZ8_1, rP8_1, rZ8_2, rP8_2, rR8_3, rN8_3, rP8_3, rR8_4, rN8_4, rP8_4, rI8_5, rP8_5, rI8_6, rP8_6, rZ8_7, rP8_7, rR8_8, rN8_8, rP8_8]
      refine s_size (d := d + 3) hP ?_
      rw [nt_le (by omega) (by omega)]
      exact ⟨fun _ => h, fun hc => absurd (by omega) hc⟩
    | succ r ih =>
      intro i hi h
      obtain ⟨p, hp⟩ : ∃ p, T.2.2.1[i]? = some p := ⟨_, List.getElem?_eq_getElem (by omega)⟩
      obtain ⟨-, nm, hc⟩ := hX.2.2.2.2.1 i p hp
      have hd : T.2.2.1.drop i = p :: T.2.2.1.drop (i + 1) := by
        obtain ⟨hk, e1⟩ := List.getElem?_eq_some_iff.mp hp
        rw [← List.getElem_cons_drop hk, e1]
      rw [hd, List.all_cons] at h
      rw [show r + 1 + 1 = (r + 1) + 1 from rfl, Z_X8_isHeap_11]
      simp only [F_X8_isHeap_11, fI_at (h0), fZ_at (h0), fJ_at (h0), fR_at (h0), fN_at (h0), pF_at (h0), rZ8_0, rP8_0, rZ8_1, rP8_1, rZ8_2, rP8_2, rR8_3, rN8_3, rP8_3, rR8_4, rN8_4, rP8_4, rI8_5, rP8_5, rI8_6, rP8_6, rZ8_7, rP8_7, rR8_8, rN8_8, rP8_8]
      refine s_size (d := d + 3) hP ?_
      rw [nt_le (by omega) (by omega)]
      refine ⟨fun hc => by omega, fun _ => ?_⟩
      simp only [fI_at (h0), fZ_at (h0), fJ_at (h0), fR_at (h0), fN_at (h0), pF_at (h0), rZ8_0, rP8_0, rZ8_1, rP8_1, rZ8_2, rP8_2, rR8_3, rN8_3, rP8_3, rR8_4, rN8_4, rP8_4, rI8_5, rP8_5, rI8_6, rP8_6, rZ8_7, rP8_7, rR8_8, rN8_8, rP8_8]
      refine s_get (d := d) hP (by omega) ⟨rv_at hc ⟨_, rfl⟩, ?_⟩
      simp only [fI_at (hc), fZ_at (hc), fJ_at (hc), fR_at (hc), fN_at (hc), pF_at (hc), rI5_0, rP5_0, rJ5_1, rP5_1, rI5_2, rP5_2, rI5_3, rP5_3, rI5_4, rP5_4, rZ5_5, rP5_5, rI5_6, rP5_6, show nI i + 1 = nI (i + 1) from nt_add i 1]
      have e1 : ownI p.2.2.2.2.1 = -1 ↔ p.2.2.2.2.1 = 0 := by
        have ho := (hW.PB hp).2.2.2.2.2
        unfold ownI
        by_cases h0 : p.2.2.2.2.1 = 0
        · rw [if_pos h0]; simp [h0]
        · rw [if_neg h0]; exact ⟨fun hc => absurd hc (nI_nm1 (by omega)), fun hc => absurd hc h0⟩
      rw [e1]
      refine ⟨fun h1 => ih (i + 1) (by omega) (kif h (by simp [h1])), fun h1 => kif h (by simp [h1])⟩
  refine m_X8_isHeap (rv_at h0 ⟨_, rfl⟩) ?_
  simp only [F_X8_isHeap, fI_at (h0), fZ_at (h0), fJ_at (h0), fR_at (h0), fN_at (h0), pF_at (h0), rZ8_0, rP8_0, rZ8_1, rP8_1, rZ8_2, rP8_2, rR8_3, rN8_3, rP8_3, rR8_4, rN8_4, rP8_4, rI8_5, rP8_5, rI8_6, rP8_6, rZ8_7, rP8_7, rR8_8, rN8_8, rP8_8]
  exact ⟨fun h1 => ⟨_, hz T.2.2.1.length 0 (by omega) (kif hK (by simp [h1]))⟩, fun h1 => kif hK (by simp [h1])⟩
theorem s_X8_isSameTurned (hX : TBr Q σ X T) (hW : WFT T) {k tk : Nat} {b : BD} (hk : T.2.1[k]? = some b) (htk : tk < 16384) (hj : tk &&& T.2.2.2 = 0) {K : Bool → Hp → Prop} (hK : K (hfB T b tk) σ) : C_X8_isSameTurned l G (d + 3) (xT X) (xb X k) (nI tk) σ K := by
  have h0 := hX.1.2
  have hj14 := tb_j hW
  obtain ⟨-, nm, hc⟩ := hX.2.2.2.1 k b hk
  have hbb := hW.BB hk
  rw [hfB_iff hj] at hK
  have l1 : ∀ sq, hr b sq < 2 ^ 14 := fun sq => hrN_lt (by have := hbb.2.2.2.2; omega) _ 0 0 (by omega) (by decide)
  have l2 := l1 (T.2.2.2 &&& sqB b)
  have l3 := l1 (tk &&& sqB b)
  have m1 : T.2.2.2 &&& sqB b < 2 ^ 14 := Nat.lt_of_le_of_lt Nat.and_le_left hj14
  have m2 : tk &&& sqB b < 2 ^ 14 := Nat.lt_of_le_of_lt Nat.and_le_left htk
  refine m_X8_isSameTurned (rv_at h0 ⟨_, rfl⟩) ?_
  simp only [F_X8_isSameTurned, F_X8_isSameTurned_42, F_X8_isSameTurned_43, fI_at (h0), fZ_at (h0), fJ_at (h0), fR_at (h0), fN_at (h0), pF_at (h0), rZ8_0, rP8_0, rZ8_1, rP8_1, rZ8_2, rP8_2, rR8_3, rN8_3, rP8_3, rR8_4, rN8_4, rP8_4, rI8_5, rP8_5, rI8_6, rP8_6, rZ8_7, rP8_7, rR8_8, rN8_8, rP8_8]
  refine s_X0_allSquares (d := d + 1) hbb hc (s_X0_allSquares (d := d + 1) hbb hc ?_)
  rw [nt_and, nt_and]
  refine s_X0_turnedHalfRound (d := d) hbb hc (by omega) ?_
  rw [nt_eq (by omega) (by omega)]
  refine ⟨fun h1 => kif hK (by simp [h1]), fun h1 => s_X0_turnedHalfRound (d := d) hbb hc (by omega) ?_⟩
  rw [nt_eq (by omega) (by omega)]
  exact ⟨fun h2 => kif hK (by simp [h2]), fun h2 => kif hK (by simp [h1, h2])⟩
theorem s_X8_areAllSameTurned (hX : TBr Q σ X T) (hW : WFT T) {tk : Nat} (htk : tk < 16384) (hj : tk &&& T.2.2.2 = 0) {K : Bool → Hp → Prop} (hK : K (T.2.1.all fun b => hfB T b tk) σ) : C_X8_areAllSameTurned l G (d + 5) (xT X) (nI tk) σ K := by
  have h0 := hX.1.2
  have h3 := hW.1.1
  have hB := hX.2.1
  have hz : ∀ r i, i + r = T.2.1.length → K ((T.2.1.drop i).all fun b => hfB T b tk) σ → Z_X8_areAllSameTurned_2 l G (d + 4) K (r + 1) (xT X) (nI tk) (nI i) σ := by
    intro r
    induction r with
    | zero =>
      intro i hi h
      rw [List.drop_eq_nil_of_le (by omega)] at h
      simp only [Z_X8_areAllSameTurned_2, F_X8_areAllSameTurned_2, fI_at (h0), fZ_at (h0), fJ_at (h0), fR_at (h0), fN_at (h0), pF_at (h0), rZ8_0, rP8_0, rZ8_1, rP8_1, rZ8_2, rP8_2, rR8_3, rN8_3, rP8_3, rR8_4, rN8_4, rP8_4, rI8_5, rP8_5, rI8_6, rP8_6, rZ8_7, rP8_7, rR8_8, rN8_8, rP8_8]
      refine s_size (d := d + 3) hB ?_
      rw [nt_le (by omega) (by omega)]
      exact ⟨fun _ => h, fun hc => absurd (by omega) hc⟩
    | succ r ih =>
      intro i hi h
      obtain ⟨b, hb⟩ : ∃ b, T.2.1[i]? = some b := ⟨_, List.getElem?_eq_getElem (by omega)⟩
      obtain ⟨-, nm, hc⟩ := hX.2.2.2.1 i b hb
      have hd : T.2.1.drop i = b :: T.2.1.drop (i + 1) := by
        obtain ⟨hk, e1⟩ := List.getElem?_eq_some_iff.mp hb
        rw [← List.getElem_cons_drop hk, e1]
      rw [hd, List.all_cons] at h
      rw [show r + 1 + 1 = (r + 1) + 1 from rfl, Z_X8_areAllSameTurned_2]
      simp only [F_X8_areAllSameTurned_2, fI_at (h0), fZ_at (h0), fJ_at (h0), fR_at (h0), fN_at (h0), pF_at (h0), rZ8_0, rP8_0, rZ8_1, rP8_1, rZ8_2, rP8_2, rR8_3, rN8_3, rP8_3, rR8_4, rN8_4, rP8_4, rI8_5, rP8_5, rI8_6, rP8_6, rZ8_7, rP8_7, rR8_8, rN8_8, rP8_8]
      refine s_size (d := d + 3) hB ?_
      rw [nt_le (by omega) (by omega)]
      refine ⟨fun hc => by omega, fun _ => ?_⟩
      simp only [fI_at (h0), fZ_at (h0), fJ_at (h0), fR_at (h0), fN_at (h0), pF_at (h0), rZ8_0, rP8_0, rZ8_1, rP8_1, rZ8_2, rP8_2, rR8_3, rN8_3, rP8_3, rR8_4, rN8_4, rP8_4, rI8_5, rP8_5, rI8_6, rP8_6, rZ8_7, rP8_7, rR8_8, rN8_8, rP8_8]
      refine s_get (d := d) hB (by omega) ⟨rv_at hc ⟨_, rfl⟩, s_X8_isSameTurned (d := d + 1) hX hW hb htk hj ?_⟩
      rw [show nI i + 1 = nI (i + 1) from nt_add i 1]
      exact ⟨fun h1 => ih (i + 1) (by omega) (kif h (by rw [h1]; rfl)), fun h1 => kif h (by rw [h1]; rfl)⟩
  refine m_X8_areAllSameTurned (rv_at h0 ⟨_, rfl⟩) ?_
  simp only [F_X8_areAllSameTurned]
  exact ⟨_, hz T.2.1.length 0 (by omega) hK⟩
theorem s_X8_canAnswer (hX : TBr Q σ X T) (hW : WFT T) (hH : hpT T = true) {tk who : Nat} (htk : tk < 16384) {K : Bool → Hp → Prop} (hK : K (ansS T (allL T) tk who) σ) : C_X8_canAnswerAllAcross l G (d + 2) (xT X) (nI tk) σ K := by
  have h224 := allL_224 hW
  have h0 := hX.1.2
  have hz : ∀ r i, i + r = (allL T).length → K ((((allL T).drop i).filter fun e => myE T e tk who).all (ansE T (allL T))) σ → Z_X8_canAnswerAllAcross_11 l G (d + 1) K (r + 1) (nI tk) (xL' X) (nI (allL T).length) (nI i) σ := by
    intro r
    induction r with
    | zero =>
      intro i hi h
      rw [List.drop_eq_nil_of_le (by omega)] at h
      simp only [Z_X8_canAnswerAllAcross_11, F_X8_canAnswerAllAcross_11]
      rw [nt_le (by omega) (by omega)]
      exact ⟨fun _ => h, fun hc => absurd (by omega) hc⟩
    | succ r ih =>
      intro i hi h
      obtain ⟨e, he⟩ : ∃ e, (allL T)[i]? = some e := ⟨_, List.getElem?_eq_getElem (by omega)⟩
      obtain ⟨g, g1, g2, g3⟩ := hX.lay he
      obtain ⟨-, -, u1, u2, u3⟩ := allL_VL hW i e he
      rw [drop_at he, List.filter_cons] at h
      rw [show r + 1 + 1 = (r + 1) + 1 from rfl, Z_X8_canAnswerAllAcross_11]
      simp only [F_X8_canAnswerAllAcross_11, F_X8_canAnswerAllAcross_57, F_X8_canAnswerAllAcross_59, show nI i + 1 = nI (i + 1) from nt_add i 1]
      rw [nt_le (by omega) (by omega)]
      refine ⟨fun hc => by omega, fun _ => hX.gN hW he (hX.fr he (by omega) ⟨fun h1 => ?_, fun h1 => ?_⟩)⟩
      · rw [if_neg (by rw [hpT_my hH, h1]; decide)] at h
        exact ih (i + 1) (by omega) h
      · rw [if_pos (by rw [hpT_my hH, h1]), List.all_cons] at h
        simp only [fI_at (g3), fZ_at (g3), fJ_at (g3), fR_at (g3), fN_at (g3), pF_at (g3), rI2_0, rP2_0, rR2_1, rN2_1, rP2_1, rR2_2, rN2_2, rP2_2, rI2_3, rP2_3, rI2_4, rP2_4, rI2_5, rP2_5, rI2_6, rP2_6, rI2_7, rP2_7, rR2_8, rN2_8, rP2_8]
        cases ha : acr T (allL T) e with
        | none =>
          have hE : ansE T (allL T) e = false := by unfold ansE; rw [ha]
          exact ⟨fun _ => kif h (by rw [hE]; rfl), fun b hb => by cases hb⟩
        | some o =>
          obtain ⟨eo, ho⟩ := acr_lt ha
          obtain ⟨-, -, v1, v2, -⟩ := allL_VL hW o eo ho
          obtain ⟨go, go1, go2, go3⟩ := hX.lay ho
          refine ⟨fun hc => by simp at hc, fun b hb => ?_⟩
          simp only [Option.map_some, Option.some.injEq] at hb
          subst hb
          simp only [Option.map_some, Option.some.injEq, exists_eq_left', fI_at (go3), fZ_at (go3), fJ_at (go3), fR_at (go3), fN_at (go3), pF_at (go3), rI2_0, rP2_0, rR2_1, rN2_1, rP2_1, rR2_2, rN2_2, rP2_2, rI2_3, rP2_3, rI2_4, rP2_4, rI2_5, rP2_5, rI2_6, rP2_6, rI2_7, rP2_7, rR2_8, rN2_8, rP2_8]
          have hE : (eS eo &&& gdN T e = 0) ↔ ansE T (allL T) e = true := by
            unfold ansE gdN
            rw [ha]
            simp only [sqN_at ho]
            cases T.1.2.2 with
            | true =>
              simp only [if_true, Bool.not_true, Bool.false_or, Bool.and_eq_true, decide_eq_true_eq]
              rw [Nat.and_or_distrib_left, Nat.or_eq_zero_iff, Nat.and_comm (eS eo) e.2.2.2.2.2.2]
            | false =>
              simp only [Bool.false_eq_true, if_false, Bool.not_false, Bool.true_or, Bool.and_true, decide_eq_true_eq]
          rw [nt_and0 (Nat.lt_of_lt_of_le v2 (by decide)), hE]
          exact ⟨fun h2 => ih (i + 1) (by omega) (kif h (by rw [h2]; rfl)), fun h2 => kif h (by simp [h2])⟩
  refine m_X8_canAnswerAllAcross (rv_at h0 ⟨_, rfl⟩) ?_
  simp only [F_X8_canAnswerAllAcross, fI_at (h0), fZ_at (h0), fJ_at (h0), fR_at (h0), fN_at (h0), pF_at (h0), rZ8_0, rP8_0, rZ8_1, rP8_1, rZ8_2, rP8_2, rR8_3, rN8_3, rP8_3, rR8_4, rN8_4, rP8_4, rI8_5, rP8_5, rI8_6, rP8_6, rZ8_7, rP8_7, rR8_8, rN8_8, rP8_8, hX.aL]
  exact ⟨_, hz (allL T).length 0 (by omega) (by simpa [ansS, mvs] using hK)⟩
theorem TBr.inj (hX : TBr Q σ X T) (hW : WFT T) {i j : Nat} {e f : LY} (hi : (allL T)[i]? = some e) (hj : (allL T)[j]? = some f) (h : xl X i = xl X j) : i = j := by
  have h224 := allL_224 hW
  have l1 := (List.getElem?_eq_some_iff.mp hi).1
  have l2 := (List.getElem?_eq_some_iff.mp hj).1
  obtain ⟨-, -, -, a⟩ := hX.lay hi
  obtain ⟨-, -, -, b⟩ := hX.lay hj
  rw [h, b] at a
  have a' := Option.some.inj a
  simp only [LYc, O2, Sum.inl.injEq, Prod.mk.injEq, true_and, List.cons.injEq] at a'
  exact ((nt_eq (by omega) (by omega)).mp a'.1).symm
theorem s_X8_heldByAcross (hX : TBr Q σ X T) (hW : WFT T) {tk who : Nat} (htk : tk < 16384) (hj : tk &&& T.2.2.2 = 0) {K : Int32 → Hp → Prop} (hK : K (nI (bacN T (allL T) tk who)) σ) : C_X8_heldByAcross l G (d + 6) (xT X) (nI tk) σ K := by
  have h224 := allL_224 hW
  have h0 := hX.1.2
  unfold bacN at hK
  refine m_X8_heldByAcross (rv_at h0 ⟨_, rfl⟩) ?_
  simp only [F_X8_heldByAcross, F_X8_heldByAcross_15]
  refine s_X8_isHeap (d := d) hX hW ⟨fun h1 => ?_, fun hH => s_X8_areAllSameTurned (d := d) hX hW htk hj ⟨fun h2 => s_X8_canAnswer (d := d + 3) (who := who) hX hW hH htk ⟨fun h3 => ?_, fun h3 => ?_⟩, fun h2 => ?_⟩⟩
  · rw [h1] at hK; exact hK
  · rw [hH, h2, h3] at hK
    have hz : ∀ r i, i + r = (allL T).length → K (nI (if slfA T (allL T) tk who ((allL T).drop i) i then 1 else 0)) σ → Z_X8_heldByAcross_38 l G (d + 5) K (r + 1) (xT X) (nI tk) (xL' X) (nI (allL T).length) (nI i) σ := by
      intro r
      induction r with
      | zero =>
        intro i hi h
        rw [List.drop_eq_nil_of_le (by omega)] at h
        simp only [Z_X8_heldByAcross_38, F_X8_heldByAcross_38]
        rw [nt_le (by omega) (by omega)]
        exact ⟨fun _ => h, fun hc => absurd (by omega) hc⟩
      | succ r ih =>
        intro i hi h
        obtain ⟨e, he⟩ : ∃ e, (allL T)[i]? = some e := ⟨_, List.getElem?_eq_getElem (by omega)⟩
        obtain ⟨g, g1, g2, g3⟩ := hX.lay he
        obtain ⟨-, -, u1, u2, u3⟩ := allL_VL hW i e he
        rw [drop_at he, slfA, hpT_my hH] at h
        have hno : (frE T e tk && (decide (acr T (allL T) e = some i) && ansS T (allL T) (tk ||| eS e) (1 - who))) = false → Z_X8_heldByAcross_38 l G (d + 5) K (r + 1) (xT X) (nI tk) (xL' X) (nI (allL T).length) (nI (i + 1)) σ := fun hf => ih (i + 1) (by omega) (by rwa [hf, Bool.false_or] at h)
        rw [show r + 1 + 1 = (r + 1) + 1 from rfl, Z_X8_heldByAcross_38]
        simp only [F_X8_heldByAcross_38, F_X8_heldByAcross_85, show nI i + 1 = nI (i + 1) from nt_add i 1]
        rw [nt_le (by omega) (by omega)]
        refine ⟨fun hc => by omega, fun _ => hX.gN hW he (hX.fr he (by omega) ⟨fun h1 => hno (by rw [h1]; rfl), fun h1 => ?_⟩)⟩
        simp only [fI_at (g3), fZ_at (g3), fJ_at (g3), fR_at (g3), fN_at (g3), pF_at (g3), rI2_0, rP2_0, rR2_1, rN2_1, rP2_1, rR2_2, rN2_2, rP2_2, rI2_3, rP2_3, rI2_4, rP2_4, rI2_5, rP2_5, rI2_6, rP2_6, rI2_7, rP2_7, rR2_8, rN2_8, rP2_8, nt_or]
        have hs : ((acr T (allL T) e).map (xl X) = some (xl X i)) ↔ acr T (allL T) e = some i := by
          cases ha : acr T (allL T) e with
          | none => simp
          | some o =>
            obtain ⟨eo, ho⟩ := acr_lt ha
            simp only [Option.map_some, Option.some.injEq]
            exact ⟨fun hc => hX.inj hW ho he hc, fun hc => by rw [hc]⟩
        rw [hs]
        refine ⟨fun h4 => hno (by simp [h4]), fun h4 => s_X8_canAnswer (d := d + 3) (who := 1 - who) hX hW hH (Nat.or_lt_two_pow (n := 14) htk u2) ⟨fun h5 => hno ?_, fun h5 => ?_⟩⟩
        · have h5' : ansS T (allL T) (tk ||| eS e) (1 - who) = false := h5
          rw [h5', Bool.and_false, Bool.and_false]
        · have h5' : ansS T (allL T) (tk ||| eS e) (1 - who) = true := h5
          rw [h1, h5', decide_eq_true h4] at h
          exact h
    simp only [fI_at (h0), fZ_at (h0), fJ_at (h0), fR_at (h0), fN_at (h0), pF_at (h0), rZ8_0, rP8_0, rZ8_1, rP8_1, rZ8_2, rP8_2, rR8_3, rN8_3, rP8_3, rR8_4, rN8_4, rP8_4, rI8_5, rP8_5, rI8_6, rP8_6, rZ8_7, rP8_7, rR8_8, rN8_8, rP8_8, hX.aL]
    exact ⟨_, hz (allL T).length 0 (by omega) (by simpa using hK)⟩
  · rw [hH, h2, h3] at hK; exact hK
  · rw [hH, h2] at hK; exact hK
end TBL
