/-! boards, pieces, lays of the class -/
theorem nx_cnt : ∀ j : Fin 32, (UInt32.ofNat j.val &&& Int32.toUInt32 31).toNat % 32 = j.val := by decide +kernel
/-- a board's cell: number, name's code -/
abbrev BDc (k : Nat) (nm : Int64) (b : BD) : CE := O0 (nI k) nm (nI b.1) (nI b.2.1) (nI b.2.2.1)
def ownI (o : Nat) : Int32 := if o = 0 then -1 else nI (o - 1)
abbrev PCc (k : Nat) (nm : Int64) (p : PC) : CE := O5 (nI k) nm (nI p.1) (nI p.2.1) (nI p.2.2.1) p.2.2.2.1 (ownI p.2.2.2.2.1)
def gdN (T : TB) (e : LY) : Nat := if T.1.2.2 then eS e ||| e.2.2.2.2.2.2 else eS e
abbrev LYc (T : TB) (n : Nat) (pa ba : Nat) (e : LY) (tu : Option Nat) : CE := O2 (nI n) (some pa) (some ba) (nI e.2.2.1) (nI e.2.2.2.1) (nI e.2.2.2.2.1) (nI (eS e)) (nI (gdN T e)) tu
theorem gdN_fr (T : TB) (e : LY) (tk : Nat) : (gdN T e &&& tk = 0) ↔ frE T e tk = true := by
  unfold gdN frE
  have h1 : ∀ a b c : Nat, (a ||| b) &&& c = 0 ↔ a &&& c = 0 ∧ b &&& c = 0 := fun a b c => by
    rw [Nat.and_comm, Nat.and_or_distrib_left, Nat.or_eq_zero_iff, Nat.and_comm c a, Nat.and_comm c b]
  cases T.1.2.2 with
  | true =>
    simp only [if_true, Bool.not_true, Bool.false_or, Bool.and_eq_true, decide_eq_true_eq]
    rw [h1, Nat.and_comm tk, Nat.and_comm tk]
  | false =>
    simp only [Bool.false_eq_true, if_false, Bool.not_false, Bool.true_or, Bool.and_true, decide_eq_true_eq]
    rw [Nat.and_comm]
def bitV (b : BD) (x y : Int32) : Int32 := if ¬ x < 0 ∧ x < nI b.1 ∧ ¬ y < 0 ∧ y < nI b.2.1 then nI (2 ^ (b.2.2.1 + y.toNatClampNeg * b.1 + x.toNatClampNeg)) else 0
/-- of a board's sizes -/
def BB (b : BD) : Prop := 1 ≤ b.1 ∧ b.1 ≤ 8 ∧ 1 ≤ b.2.1 ∧ b.2.1 ≤ 4 ∧ b.2.2.1 + b.1 * b.2.1 ≤ 14
theorem WFT.BB {T : TB} (hW : WFT T) {k : Nat} {b : BD} (h : T.2.1[k]? = some b) : BB b := by
  obtain ⟨k3, w1, w2, w3, w4⟩ := WFB.bd hW h
  obtain ⟨q1, q2⟩ := WFB.sq hW h
  exact ⟨w1, w2, w3, w4, by omega⟩
theorem BB.in {b : BD} (h : BB b) {x y : Nat} (hx : x < b.1) (hy : y < b.2.1) : b.1 * y + x < b.1 * b.2.1 ∧ b.2.2.1 + (b.1 * y + x) < 14 := by
  have h2 : b.1 * (y + 1) ≤ b.1 * b.2.1 := Nat.mul_le_mul_left b.1 (by omega)
  rw [Nat.mul_add, Nat.mul_one] at h2
  have := h.2.2.2.2
  omega
theorem bitV_in {b : BD} (h : BB b) {x y : Nat} (hx : x < b.1) (hy : y < b.2.1) : bitV b (nI x) (nI y) = nI (2 ^ (b.2.2.1 + (b.1 * y + x))) := by
  obtain ⟨h1, h2, h3, h4, h5⟩ := h
  unfold bitV
  rw [if_pos ⟨nt_neg (by omega), (nt_lt (by omega) (by omega)).mpr hx, nt_neg (by omega), (nt_lt (by omega) (by omega)).mpr hy⟩, nI_clamp (by omega), nI_clamp (by omega), Nat.mul_comm y, Nat.add_assoc]
theorem bitV_out {b : BD} {x y : Int32} (h : x < 0 ∨ ¬ x < nI b.1 ∨ y < 0 ∨ ¬ y < nI b.2.1) : bitV b x y = 0 := by
  unfold bitV
  rw [if_neg]
  rintro ⟨h1, h2, h3, h4⟩
  rcases h with h | h | h | h
  · exact h1 h
  · exact h h2
  · exact h3 h
  · exact h h4
theorem nm1_lt0 : (nI 0 - 1 : Int32) < 0 := by decide
section LEAF
variable {l : Launch} {G : GG} {d : Nat} {σ : Hp}
theorem s_X0_bit {a k : Nat} {nm : Int64} {b : BD} (hb : BB b) (h : σ a = some (BDc k nm b)) {x y : Int32} {K : Int32 → Hp → Prop} (hK : K (bitV b x y) σ) : C_X0_bit l G (d + 1) a x y σ K := by
  obtain ⟨h1, h2, h3, h4, h5⟩ := hb
  refine m_X0_bit (rv_at h ⟨_, rfl⟩) ?_
  simp only [F_X0_bit_24, F_X0_bit, fI_at (h), fZ_at (h), fJ_at (h), fR_at (h), fN_at (h), pF_at (h), rI0_0, rP0_0, rJ0_1, rP0_1, rI0_2, rP0_2, rI0_3, rP0_3, rI0_4, rP0_4]
  unfold bitV at hK
  refine ⟨fun c1 => ?_, fun c1 => ⟨fun c2 => ?_, fun c2 => ⟨fun c3 => ?_, fun c3 => ⟨fun c4 => ?_, fun c4 => ?_⟩⟩⟩⟩
  · rw [if_neg fun c => c.1 c1] at hK; exact hK
  · rw [if_neg fun c => absurd c2 (fun e => (fa_of_lt c.2.1).2.1 e)] at hK; exact hK
  · rw [if_neg fun c => c.2.2.1 c3] at hK; exact hK
  · obtain ⟨x', hx', rfl⟩ := nt_of c1
    obtain ⟨y', hy', rfl⟩ := nt_of c3
    rw [nt_le (by omega) hx'] at c2
    rw [nt_lt hy' (by omega)] at c4
    rw [if_pos ⟨c1, (nt_lt hx' (by omega)).mpr (by omega), c3, (nt_lt hy' (by omega)).mpr c4⟩, nI_clamp hx', nI_clamp hy'] at hK
    have m := (BB.in ⟨h1, h2, h3, h4, h5⟩ (show x' < b.1 by omega) c4).2
    rw [Nat.mul_comm] at m
    rw [nt_mul, nt_add, nt_add, nt_one (by omega)]
    exact hK
  · rw [if_neg fun c => c4 c.2.2.2] at hK; exact hK
theorem s_X0_allSquares {a k : Nat} {nm : Int64} {b : BD} (hb : BB b) (h : σ a = some (BDc k nm b)) {K : Int32 → Hp → Prop} (hK : K (nI (sqB b)) σ) : C_X0_allSquares l G (d + 1) a σ K := by
  obtain ⟨h1, h2, h3, h4, h5⟩ := hb
  have hp : 2 ^ (b.1 * b.2.1) ≤ 2 ^ 14 := Nat.pow_le_pow_right (by decide) (by omega)
  have hp0 : 0 < 2 ^ (b.1 * b.2.1) := Nat.two_pow_pos _
  refine m_X0_allSquares (rv_at h ⟨_, rfl⟩) ?_
  simp only [F_X0_allSquares, fI_at (h), fZ_at (h), fJ_at (h), fR_at (h), fN_at (h), pF_at (h), rI0_0, rP0_0, rJ0_1, rP0_1, rI0_2, rP0_2, rI0_3, rP0_3, rI0_4, rP0_4, nt_mul]
  rw [nt_one (by omega), show (nI (2 ^ (b.1 * b.2.1)) - 1 : Int32) = nI (2 ^ (b.1 * b.2.1) - 1) from nt_sub (b := 1) (by omega) (by omega), nt_sh5 (by omega), nt_shl _ (by omega)]
  exact hK
theorem hrN_add (f al sq : Nat) : ∀ n m c a, hrN f al sq (n + m) c a = hrN f al sq m (c + n) (hrN f al sq n c a)
  | 0, m, c, a => by simp [hrN]
  | n + 1, m, c, a => by
    rw [show n + 1 + m = (n + m) + 1 by omega]
    simp only [hrN]
    rw [hrN_add f al sq n m (c + 1), show c + 1 + n = c + (n + 1) by omega]
theorem s_X0_turnedHalfRound {a k : Nat} {nm : Int64} {b : BD} (hb : BB b) (h : σ a = some (BDc k nm b)) {sq : Nat} (hsq : sq < 2 ^ 31) {K : Int32 → Hp → Prop} (hK : K (nI (hr b sq)) σ) : C_X0_turnedHalfRound l G (d + 2) a (nI sq) σ K := by
  have hbc := hb
  obtain ⟨h1, h2, h3, h4, h5⟩ := hb
  refine m_X0_turnedHalfRound (rv_at h ⟨_, rfl⟩) ?_
  simp only [F_X0_turnedHalfRound]
  have hin : ∀ (X : Nat → Int32 → Int32 → Int32 → Hp → Prop) y, y < b.2.1 → ∀ r x acc, x + r = b.1 → X a (nI sq) (nI (hrN b.2.2.1 (b.1 * b.2.1) sq r (b.1 * y + x) acc)) (nI (y + 1)) σ → ∃ q, Z_X0_turnedHalfRound_15 l G (d + 1) X K q a (nI sq) (nI acc) (nI y) (nI x) σ := by
    intro X y hy r
    induction r with
    | zero =>
      intro x acc hx hX
      refine ⟨1, ?_⟩
      simp only [Z_X0_turnedHalfRound_15, F_X0_turnedHalfRound_15, fI_at (h), fZ_at (h), fJ_at (h), fR_at (h), fN_at (h), pF_at (h), rI0_0, rP0_0, rJ0_1, rP0_1, rI0_2, rP0_2, rI0_3, rP0_3, rI0_4, rP0_4]
      rw [nt_le (by omega) (by omega), show nI y + 1 = nI (y + 1) from nt_add y 1]
      exact ⟨fun _ => hX, fun hc => absurd (by omega) hc⟩
    | succ r ih =>
      intro x acc hx hX
      simp only [hrN] at hX
      obtain ⟨q, hq⟩ := ih (x + 1) _ (by omega) hX
      obtain ⟨m1, m2⟩ := hbc.in (show x < b.1 by omega) hy
      refine ⟨q + 1, ?_⟩
      simp only [Z_X0_turnedHalfRound_15, F_X0_turnedHalfRound_15, F_X0_turnedHalfRound_60, fI_at (h), fZ_at (h), fJ_at (h), fR_at (h), fN_at (h), pF_at (h), rI0_0, rP0_0, rJ0_1, rP0_1, rI0_2, rP0_2, rI0_3, rP0_3, rI0_4, rP0_4, show nI x + 1 = nI (x + 1) from nt_add x 1]
      rw [nt_le (by omega) (by omega)]
      refine ⟨fun hc => by omega, fun _ => s_X0_bit (d := d) hbc h ?_⟩
      rw [bitV_in hbc (by omega) hy, nt_and0 hsq, fb_bit_nat]
      refine ⟨fun c1 => ?_, fun c1 => ?_⟩
      · rw [c1] at hq
        exact hq
      · have c1' : sq.testBit (b.2.2.1 + (b.1 * y + x)) = true := by simpa using c1
        rw [c1', if_pos rfl] at hq
        simp only [fI_at (h), fZ_at (h), fJ_at (h), fR_at (h), fN_at (h), pF_at (h), rI0_0, rP0_0, rJ0_1, rP0_1, rI0_2, rP0_2, rI0_3, rP0_3, rI0_4, rP0_4]
        rw [show (nI b.1 - 1 - nI x : Int32) = nI (b.1 - 1 - x) by rw [show (nI b.1 - 1 : Int32) = nI (b.1 - 1) from nt_sub (b := 1) (by omega) (by omega), nt_sub (by omega) (by omega)], show (nI b.2.1 - 1 - nI y : Int32) = nI (b.2.1 - 1 - y) by rw [show (nI b.2.1 - 1 : Int32) = nI (b.2.1 - 1) from nt_sub (b := 1) (by omega) (by omega), nt_sub (by omega) (by omega)]]
        refine s_X0_bit (d := d) hbc h ?_
        have e : b.2.2.1 + (b.1 * (b.2.1 - 1 - y) + (b.1 - 1 - x)) = b.2.2.1 + b.1 * b.2.1 - 1 - (b.1 * y + x) := by
          have e1 : b.1 * b.2.1 = b.1 * (b.2.1 - 1 - y) + b.1 * y + b.1 := by
            rw [← Nat.mul_add, ← Nat.mul_succ]
            congr 1
            omega
          omega
        rw [bitV_in hbc (by omega) (by omega), e, nt_or]
        exact hq
  have hout : ∀ r y acc, y + r = b.2.1 → K (nI (hrN b.2.2.1 (b.1 * b.2.1) sq (b.1 * r) (b.1 * y) acc)) σ → ∃ q, Z_X0_turnedHalfRound_4 l G (d + 1) K q a (nI sq) (nI acc) (nI y) σ := by
    intro r
    induction r with
    | zero =>
      intro y acc hy hX
      refine ⟨1, ?_⟩
      simp only [Z_X0_turnedHalfRound_4, F_X0_turnedHalfRound_4, fI_at (h), fZ_at (h), fJ_at (h), fR_at (h), fN_at (h), pF_at (h), rI0_0, rP0_0, rJ0_1, rP0_1, rI0_2, rP0_2, rI0_3, rP0_3, rI0_4, rP0_4]
      rw [nt_le (by omega) (by omega)]
      exact ⟨fun _ => hX, fun hc => absurd (by omega) hc⟩
    | succ r ih =>
      intro y acc hy hX
      rw [show b.1 * (r + 1) = b.1 + b.1 * r by rw [Nat.mul_add, Nat.mul_one, Nat.add_comm], hrN_add] at hX
      obtain ⟨q, hq⟩ := ih (y + 1) (hrN b.2.2.1 (b.1 * b.2.1) sq b.1 (b.1 * y) acc) (by omega) (by rwa [Nat.mul_add, Nat.mul_one])
      refine ⟨q + 1, ?_⟩
      simp only [Z_X0_turnedHalfRound_4, F_X0_turnedHalfRound_4, fI_at (h), fZ_at (h), fJ_at (h), fR_at (h), fN_at (h), pF_at (h), rI0_0, rP0_0, rJ0_1, rP0_1, rI0_2, rP0_2, rI0_3, rP0_3, rI0_4, rP0_4]
      rw [nt_le (by omega) (by omega)]
      exact ⟨fun hc => by omega, fun _ => hin _ y (by omega) b.1 0 acc (by omega) hq⟩
  exact hout b.2.1 0 0 (by omega) hK
theorem besN_add (sq f w al : Nat) : ∀ n m c a, besN sq f w al (n + m) c a = besN sq f w al m (c + n) (besN sq f w al n c a)
  | 0, m, c, a => by simp [besN]
  | n + 1, m, c, a => by
    rw [show n + 1 + m = (n + m) + 1 by omega]
    simp only [besN]
    rw [besN_add sq f w al n m (c + 1), show c + 1 + n = c + (n + 1) by omega]
theorem s_X0_withThoseBeside {a k : Nat} {nm : Int64} {b : BD} (hb : BB b) (h : σ a = some (BDc k nm b)) {sq : Nat} (hsq : sq < 2 ^ 31) {K : Int32 → Hp → Prop} (hK : K (nI (sq ||| besN sq b.2.2.1 b.1 (b.1 * b.2.1) (b.1 * b.2.1) 0 0)) σ) : C_X0_withThoseBeside l G (d + 2) a (nI sq) σ K := by
  have hbc := hb
  obtain ⟨h1, h2, h3, h4, h5⟩ := hb
  refine m_X0_withThoseBeside (rv_at h ⟨_, rfl⟩) ?_
  simp only [F_X0_withThoseBeside]
  have hin : ∀ (X : Nat → Int32 → Int32 → Int32 → Hp → Prop) y, y < b.2.1 → ∀ r x acc, x + r = b.1 → X a (nI sq) (nI (sq ||| besN sq b.2.2.1 b.1 (b.1 * b.2.1) r (b.1 * y + x) acc)) (nI (y + 1)) σ → ∃ q, Z_X0_withThoseBeside_15 l G (d + 1) X K q a (nI sq) (nI (sq ||| acc)) (nI y) (nI x) σ := by
    intro X y hy r
    induction r with
    | zero =>
      intro x acc hx hX
      refine ⟨1, ?_⟩
      simp only [Z_X0_withThoseBeside_15, F_X0_withThoseBeside_15, fI_at (h), fZ_at (h), fJ_at (h), fR_at (h), fN_at (h), pF_at (h), rI0_0, rP0_0, rJ0_1, rP0_1, rI0_2, rP0_2, rI0_3, rP0_3, rI0_4, rP0_4]
      rw [nt_le (by omega) (by omega), show nI y + 1 = nI (y + 1) from nt_add y 1]
      exact ⟨fun _ => hX, fun hc => absurd (by omega) hc⟩
    | succ r ih =>
      intro x acc hx hX
      simp only [besN] at hX
      obtain ⟨q, hq⟩ := ih (x + 1) _ (by omega) hX
      obtain ⟨m1, m2⟩ := hbc.in (show x < b.1 by omega) hy
      refine ⟨q + 1, ?_⟩
      simp only [Z_X0_withThoseBeside_15, F_X0_withThoseBeside_15, F_X0_withThoseBeside_78, fI_at (h), fZ_at (h), fJ_at (h), fR_at (h), fN_at (h), pF_at (h), rI0_0, rP0_0, rJ0_1, rP0_1, rI0_2, rP0_2, rI0_3, rP0_3, rI0_4, rP0_4, show nI x + 1 = nI (x + 1) from nt_add x 1]
      rw [nt_le (by omega) (by omega)]
      refine ⟨fun hc => by omega, fun _ => s_X0_bit (d := d) hbc h ?_⟩
      rw [bitV_in hbc (by omega) hy, nt_and0 hsq, fb_bit_nat]
      unfold bes1 at hq
      refine ⟨fun c1 => ?_, fun c1 => ?_⟩
      · rw [if_neg (by rw [c1]; decide)] at hq
        exact hq
      · have c1' : sq.testBit (b.2.2.1 + (b.1 * y + x)) = true := by simpa using c1
        rw [if_pos c1'] at hq
        refine s_X0_bit (d := d) hbc h (s_X0_bit (d := d) hbc h (s_X0_bit (d := d) hbc h (s_X0_bit (d := d) hbc h ?_)))
        have hcw : (b.1 * y + x) % b.1 = x := by rw [Nat.mul_add_mod, Nat.mod_eq_of_lt (by omega)]
        have z1 : bitV b (nI x - 1) (nI y) = nI (if 0 < (b.1 * y + x) % b.1 then 2 ^ (b.2.2.1 + (b.1 * y + x) - 1) else 0) := by
          rw [hcw]
          by_cases hx0 : 0 < x
          · rw [if_pos hx0, show (nI x - 1 : Int32) = nI (x - 1) from nt_sub (b := 1) (by omega) (by omega), bitV_in hbc (by omega) hy]
            congr 2
            omega
          · rw [if_neg hx0, show x = 0 by omega]
            exact bitV_out (Or.inl nm1_lt0)
        have z2 : bitV b (nI (x + 1)) (nI y) = nI (if (b.1 * y + x) % b.1 < b.1 - 1 then 2 ^ (b.2.2.1 + (b.1 * y + x) + 1) else 0) := by
          rw [hcw]
          by_cases hx0 : x < b.1 - 1
          · rw [if_pos hx0, bitV_in hbc (by omega) hy]
            congr 2
          · rw [if_neg hx0]
            exact bitV_out (Or.inr (Or.inl (by rw [nt_lt (by omega) (by omega)]; omega)))
        have z3 : bitV b (nI x) (nI y - 1) = nI (if b.1 ≤ b.1 * y + x then 2 ^ (b.2.2.1 + (b.1 * y + x) - b.1) else 0) := by
          by_cases hy0 : 0 < y
          · have e1 : b.1 * y = b.1 * (y - 1) + b.1 := by
              rw [← Nat.mul_succ]
              congr 1
              omega
            rw [if_pos (by omega), show (nI y - 1 : Int32) = nI (y - 1) from nt_sub (b := 1) (by omega) (by omega), bitV_in hbc (by omega) (by omega)]
            congr 2
            omega
          · rw [show y = 0 by omega, Nat.mul_zero, if_neg (by omega)]
            exact bitV_out (Or.inr (Or.inr (Or.inl nm1_lt0)))
        have z4 : bitV b (nI x) (nI y + 1) = nI (if b.1 * y + x + b.1 < b.1 * b.2.1 then 2 ^ (b.2.2.1 + (b.1 * y + x) + b.1) else 0) := by
          rw [show nI y + 1 = nI (y + 1) from nt_add y 1]
          by_cases hy0 : y + 1 < b.2.1
          · have m3 := (hbc.in (show x < b.1 by omega) hy0).1
            rw [Nat.mul_add, Nat.mul_one] at m3
            rw [if_pos (by omega), bitV_in hbc (by omega) hy0, Nat.mul_add, Nat.mul_one]
            congr 2
            omega
          · have e1 : b.1 * b.2.1 = b.1 * y + b.1 := by
              rw [← Nat.mul_succ]
              congr 1
              omega
            rw [if_neg (by omega)]
            exact bitV_out (Or.inr (Or.inr (Or.inr (by rw [nt_lt (by omega) (by omega)]; omega))))
        rw [z1, z2, z3, z4, nt_or, nt_or, nt_or, nt_or]
        simp only [Nat.or_assoc] at hq ⊢
        exact hq
  have hout : ∀ r y acc, y + r = b.2.1 → K (nI (sq ||| besN sq b.2.2.1 b.1 (b.1 * b.2.1) (b.1 * r) (b.1 * y) acc)) σ → ∃ q, Z_X0_withThoseBeside_4 l G (d + 1) K q a (nI sq) (nI (sq ||| acc)) (nI y) σ := by
    intro r
    induction r with
    | zero =>
      intro y acc hy hX
      refine ⟨1, ?_⟩
      simp only [Z_X0_withThoseBeside_4, F_X0_withThoseBeside_4, fI_at (h), fZ_at (h), fJ_at (h), fR_at (h), fN_at (h), pF_at (h), rI0_0, rP0_0, rJ0_1, rP0_1, rI0_2, rP0_2, rI0_3, rP0_3, rI0_4, rP0_4]
      rw [nt_le (by omega) (by omega)]
      exact ⟨fun _ => hX, fun hc => absurd (by omega) hc⟩
    | succ r ih =>
      intro y acc hy hX
      rw [show b.1 * (r + 1) = b.1 + b.1 * r by rw [Nat.mul_add, Nat.mul_one, Nat.add_comm], besN_add] at hX
      obtain ⟨q, hq⟩ := ih (y + 1) (besN sq b.2.2.1 b.1 (b.1 * b.2.1) b.1 (b.1 * y) acc) (by omega) (by rwa [Nat.mul_add, Nat.mul_one])
      refine ⟨q + 1, ?_⟩
      simp only [Z_X0_withThoseBeside_4, F_X0_withThoseBeside_4, fI_at (h), fZ_at (h), fJ_at (h), fR_at (h), fN_at (h), pF_at (h), rI0_0, rP0_0, rJ0_1, rP0_1, rI0_2, rP0_2, rI0_3, rP0_3, rI0_4, rP0_4]
      rw [nt_le (by omega) (by omega)]
      exact ⟨fun hc => by omega, fun _ => hin _ y (by omega) b.1 0 acc (by omega) hq⟩
  have := hout b.2.1 0 0 (by omega) hK
  rw [Nat.or_zero] at this
  exact this
/-- of a piece's sizes -/
def PB (p : PC) : Prop := p.1 ≤ 2 ∧ 1 ≤ p.2.1 ∧ p.2.1 ≤ 4 ∧ 1 ≤ p.2.2.1 ∧ p.2.2.1 ≤ 4 ∧ p.2.2.2.2.1 ≤ 2
theorem WFT.PB {T : TB} (hW : WFT T) {k : Nat} {p : PC} (h : T.2.2.1[k]? = some p) : PB p := (WFP.bd hW h).2
theorem s_X5_wideWhen {a k t : Nat} {nm : Int64} {p : PC} (hp : PB p) (h : σ a = some (PCc k nm p)) (ht : t < 4) {K : Int32 → Hp → Prop} (hK : K (nI (wO p t)) σ) : C_X5_wideWhen l G (d + 1) a (nI t) σ K := by
  unfold wO at hK
  refine m_X5_wideWhen (rv_at h ⟨_, rfl⟩) ?_
  simp only [F_X5_wideWhen_17, F_X5_wideWhen, fI_at (h), fZ_at (h), fJ_at (h), fR_at (h), fN_at (h), pF_at (h), rI5_0, rP5_0, rJ5_1, rP5_1, rI5_2, rP5_2, rI5_3, rP5_3, rI5_4, rP5_4, rZ5_5, rP5_5, rI5_6, rP5_6]
  rw [show (1 : Int32) = nI 1 from rfl, nt_and, Nat.and_one_is_mod, nt_0 (by omega)]
  exact ⟨fun c => by rwa [if_neg c] at hK, fun c => by rwa [if_pos c] at hK⟩
theorem s_X5_highWhen {a k t : Nat} {nm : Int64} {p : PC} (hp : PB p) (h : σ a = some (PCc k nm p)) (ht : t < 4) {K : Int32 → Hp → Prop} (hK : K (nI (hO p t)) σ) : C_X5_highWhen l G (d + 1) a (nI t) σ K := by
  unfold hO at hK
  refine m_X5_highWhen (rv_at h ⟨_, rfl⟩) ?_
  simp only [F_X5_highWhen_17, F_X5_highWhen, fI_at (h), fZ_at (h), fJ_at (h), fR_at (h), fN_at (h), pF_at (h), rI5_0, rP5_0, rJ5_1, rP5_1, rI5_2, rP5_2, rI5_3, rP5_3, rI5_4, rP5_4, rZ5_5, rP5_5, rI5_6, rP5_6]
  rw [show (1 : Int32) = nI 1 from rfl, nt_and, Nat.and_one_is_mod, nt_0 (by omega)]
  exact ⟨fun c => by rwa [if_neg c] at hK, fun c => by rwa [if_pos c] at hK⟩
def shp (p : PC) (t : Nat) : Bool := if t = 0 then true else if p.2.2.2.1 && decide (p.1 ≠ 0) then decide (p.1 = 2) || (decide (t = 1) && decide (p.2.1 ≠ p.2.2.1)) else false
theorem s_X5_hasShape {a k t : Nat} {nm : Int64} {p : PC} (hp : PB p) (h : σ a = some (PCc k nm p)) (ht : t < 4) {K : Bool → Hp → Prop} (hK : K (shp p t) σ) : C_X5_hasShape l G (d + 1) a (nI t) σ K := by
  obtain ⟨p1, p2, p3, p4, p5, p6⟩ := hp
  refine m_X5_hasShape (rv_at h ⟨_, rfl⟩) ?_
  simp only [F_X5_hasShape_20, F_X5_hasShape_51, F_X5_hasShape_46, F_X5_hasShape_50, F_X5_hasShape, fI_at (h), fZ_at (h), fJ_at (h), fR_at (h), fN_at (h), pF_at (h), rI5_0, rP5_0, rJ5_1, rP5_1, rI5_2, rP5_2, rI5_3, rP5_3, rI5_4, rP5_4, rZ5_5, rP5_5, rI5_6, rP5_6]
  rw [nt_0 (by omega), nt_0 (by omega), show (2 : Int32) = nI 2 from rfl, nt_eq (by omega) (by decide), nt_1 (by omega), nt_eq (by omega) (by omega)]
  unfold shp at hK
  refine ⟨fun c0 => ⟨fun c1 => kif hK (by simp [c0, c1]), fun c1 => ⟨fun c2 => ⟨fun c3 => kif hK (by simp [c1, c3]), fun c3 => ⟨fun c4 => kif hK (by simp [c0, c3, c4]), fun c4 => ⟨fun c5 => kif hK (by simp [c0, c3, c5]), fun c5 => kif hK (by simp [c1, c2, c4, c5])⟩⟩⟩, fun c2 => kif hK (by simp [c0, c2])⟩⟩, fun c0 => kif hK (by simp [c0])⟩
theorem s_X5_isMissing {a k t x y : Nat} {nm : Int64} {p : PC} (hp : PB p) (h : σ a = some (PCc k nm p)) (ht : t < 4) (hx : x < 100) (hy : y < 100) {K : Bool → Hp → Prop} (hK : K (!hS p t x y) σ) : C_X5_isMissing l G (d + 2) a (nI x) (nI y) (nI t) σ K := by
  have hpc := hp
  obtain ⟨p1, p2, p3, p4, p5, p6⟩ := hp
  have hwo := wO_bd (p := p) (t := t) ⟨p2, p3, p4, p5⟩
  refine m_X5_isMissing (rv_at h ⟨_, rfl⟩) ?_
  simp only [F_X5_isMissing, fI_at (h), fZ_at (h), fJ_at (h), fR_at (h), fN_at (h), pF_at (h), rI5_0, rP5_0, rJ5_1, rP5_1, rI5_2, rP5_2, rI5_3, rP5_3, rI5_4, rP5_4, rZ5_5, rP5_5, rI5_6, rP5_6]
  rw [show (2 : Int32) = nI 2 from rfl, nt_eq (by omega) (by decide), nt_0 (by omega), show (3 : Int32) = nI 3 from rfl, nt_eq (by omega) (by decide)]
  unfold hS at hK
  have f48 : p.1 = 2 → ∀ s4 s0 : Int32, s4 = nI (oX p t) → s0 = nI (oY p t) → F_X5_isMissing_48 l G (d + 1) (nI x) (nI y) s4 s0 σ K := by
    intro c0 s4 s0 e1 e2
    subst e1 e2
    rw [if_pos c0] at hK
    have hox : oX p t < 2 ^ 31 := by unfold oX; split <;> omega
    have hoy : oY p t < 2 ^ 31 := by unfold oY; split <;> omega
    simp only [F_X5_isMissing_48, F_X5_isMissing_66, F_X5_isMissing_67]
    rw [nt_eq (by omega) hox, nt_eq (by omega) hoy]
    exact ⟨fun c1 => kif hK (by simp [c1]), fun c1 => ⟨fun c2 => kif hK (by simp [c2]), fun c2 => kif hK (by simp [c1, c2])⟩⟩
  have f30 : p.1 = 2 → ∀ s4 : Int32, s4 = nI (oX p t) → F_X5_isMissing_30 l G (d + 1) a (nI x) (nI y) (nI t) s4 σ K := by
    intro c0 s4 e1
    simp only [F_X5_isMissing_30]
    rw [show (2 : Int32) = nI 2 from rfl, nt_le (by decide) (by omega)]
    refine ⟨fun c1 => f48 c0 _ _ e1 ?_, fun c1 => s_X5_highWhen (d := d) hpc h ht (f48 c0 _ _ e1 ?_)⟩
    · unfold oY; rw [if_neg (by omega)]; rfl
    · unfold oY; rw [if_pos (by omega)]; exact nt_sub (b := 1) (by omega) (by omega)
  have f19 : p.1 = 2 → (t = 0 ∨ t = 3) → F_X5_isMissing_19 l G (d + 1) a (nI x) (nI y) (nI t) σ K := by
    intro c0 c1
    simp only [F_X5_isMissing_19]
    refine s_X5_wideWhen (d := d) hpc h ht (f30 c0 _ ?_)
    unfold oX; rw [if_pos c1]; exact nt_sub (b := 1) (by omega) (by omega)
  refine ⟨fun c0 => ⟨fun c1 => f19 c0 (Or.inl c1), fun c1 => ⟨fun c2 => f30 c0 _ ?_, fun c2 => f19 c0 (Or.inr c2)⟩⟩, fun c0 => ?_⟩
  · unfold oX; rw [if_neg (by omega)]; rfl
  · rw [if_neg c0] at hK; exact hK
/-- what a shape covers on a board, 0 if there is no such -/
def covS (p : PC) (b : BD) (x y t : Nat) : Nat := if shp p t && fits p b x y t then cov p b x y t else 0
theorem s_X5_squaresOn {a ba k k2 x y t : Nat} {nm nm2 : Int64} {p : PC} {b : BD} (hp : PB p) (hb : BB b) (h : σ a = some (PCc k nm p)) (h2 : σ ba = some (BDc k2 nm2 b)) (ht : t < 4) (hx : x < 100) (hy : y < 100) {K : Int32 → Hp → Prop} (hK : K (nI (covS p b x y t)) σ) : C_X5_squaresOn l G (d + 3) a ba (nI x) (nI y) (nI t) σ K := by
  have hpc := hp
  have hbc := hb
  obtain ⟨p1, p2, p3, p4, p5, p6⟩ := hp
  obtain ⟨b1, b2, b3, b4, b5⟩ := hb
  have hwo := wO_bd (p := p) (t := t) ⟨p2, p3, p4, p5⟩
  unfold covS at hK
  refine m_X5_squaresOn (rv_at h ⟨_, rfl⟩) ?_
  simp only [F_X5_squaresOn, F_X5_squaresOn_47]
  refine s_X5_wideWhen (d := d + 1) hpc h ht (s_X5_highWhen (d := d + 1) hpc h ht (s_X5_hasShape (d := d + 1) hpc h ht ?_))
  simp only [fI_at (h2), fZ_at (h2), fJ_at (h2), fR_at (h2), fN_at (h2), pF_at (h2), rI0_0, rP0_0, rJ0_1, rP0_1, rI0_2, rP0_2, rI0_3, rP0_3, rI0_4, rP0_4, nt_add]
  rw [nt_lt (by omega) (by omega), nt_le (by omega) (by omega)]
  refine ⟨fun c0 => ?_, fun c0 => ⟨fun c1 => ?_, fun c1 => ⟨fun c2 => ?_, fun c2 => ?_⟩⟩⟩
  · rw [if_neg (by simp [c0])] at hK; exact hK
  · rw [if_neg (by simp [fits]; omega)] at hK; exact hK
  · rw [if_pos (by simp [c0, fits]; omega)] at hK
    have hin : ∀ (X : Nat → Nat → Int32 → Int32 → Int32 → Int32 → Int32 → Int32 → Int32 → Hp → Prop) j, j < hO p t → ∀ r i acc, i + r = wO p t → X a ba (nI x) (nI y) (nI t) (nI (wO p t)) (nI (hO p t)) (nI (covR p b.2.2.1 b.1 x y t j r i acc)) (nI (j + 1)) σ → ∃ q, Z_X5_squaresOn_65 l G (d + 2) X K q a ba (nI x) (nI y) (nI t) (nI (wO p t)) (nI (hO p t)) (nI acc) (nI j) (nI i) σ := by
      intro X j hj r
      induction r with
      | zero =>
        intro i acc hi hX
        refine ⟨1, ?_⟩
        simp only [Z_X5_squaresOn_65, F_X5_squaresOn_65, show nI j + 1 = nI (j + 1) from nt_add j 1]
        rw [nt_le (by omega) (by omega)]
        exact ⟨fun _ => hX, fun hc => absurd (by omega) hc⟩
      | succ r ih =>
        intro i acc hi hX
        simp only [covR] at hX
        obtain ⟨q, hq⟩ := ih (i + 1) _ (by omega) hX
        refine ⟨q + 1, ?_⟩
        simp only [Z_X5_squaresOn_65, F_X5_squaresOn_65, F_X5_squaresOn_102, show nI i + 1 = nI (i + 1) from nt_add i 1, nt_add]
        rw [nt_le (by omega) (by omega)]
        refine ⟨fun hc => by omega, fun _ => s_X5_isMissing (d := d) hpc h ht (by omega) (by omega) ⟨fun c3 => ?_, fun c3 => ?_⟩⟩
        · rw [if_neg (by simpa using c3)] at hq
          exact hq
        · rw [if_pos (by simpa using c3)] at hq
          refine s_X0_bit (d := d + 1) hbc h2 ?_
          rw [bitV_in hbc (by omega) (by omega), nt_or, show b.2.2.1 + (b.1 * (y + j) + (x + i)) = b.2.2.1 + b.1 * (y + j) + x + i by omega]
          exact hq
    have hout : ∀ r j acc, j + r = hO p t → K (nI (covA p b.2.2.1 b.1 x y t r j acc)) σ → ∃ q, Z_X5_squaresOn_55 l G (d + 2) K q a ba (nI x) (nI y) (nI t) (nI (wO p t)) (nI (hO p t)) (nI acc) (nI j) σ := by
      intro r
      induction r with
      | zero =>
        intro j acc hj hX
        refine ⟨1, ?_⟩
        simp only [Z_X5_squaresOn_55, F_X5_squaresOn_55]
        rw [nt_le (by omega) (by omega)]
        exact ⟨fun _ => hX, fun hc => absurd (by omega) hc⟩
      | succ r ih =>
        intro j acc hj hX
        simp only [covA] at hX
        obtain ⟨q, hq⟩ := ih (j + 1) _ (by omega) hX
        refine ⟨q + 1, ?_⟩
        simp only [Z_X5_squaresOn_55, F_X5_squaresOn_55]
        rw [nt_le (by omega) (by omega)]
        exact ⟨fun hc => by omega, fun _ => hin _ j (by omega) (wO p t) 0 acc (by omega) hq⟩
    exact hout (hO p t) 0 0 (by omega) hK
  · rw [if_neg (by simp [fits]; omega)] at hK; exact hK
theorem s_X2_hasRoom {T : TB} {a n pa ba tk : Nat} {e : LY} {tu : Option Nat} (h : σ a = some (LYc T n pa ba e tu)) (htk : tk < 2 ^ 31) {K : Bool → Hp → Prop} (hK : K (frE T e tk) σ) : C_X2_hasRoom l G (d + 1) a (nI tk) σ K := by
  refine m_X2_hasRoom (rv_at h ⟨_, rfl⟩) ?_
  simp only [F_X2_hasRoom_14, F_X2_hasRoom, fI_at (h), fZ_at (h), fJ_at (h), fR_at (h), fN_at (h), pF_at (h), rI2_0, rP2_0, rR2_1, rN2_1, rP2_1, rR2_2, rN2_2, rP2_2, rI2_3, rP2_3, rI2_4, rP2_4, rI2_5, rP2_5, rI2_6, rP2_6, rI2_7, rP2_7, rR2_8, rN2_8, rP2_8]
  rw [nt_and0' htk, gdN_fr]
  exact ⟨fun c => kif hK (by simpa using c), fun c => kif hK c⟩
theorem s_X2_mayBe {T : TB} {a n pa ba tk who k : Nat} {nm : Int64} {p : PC} {e : LY} {tu : Option Nat} (h : σ a = some (LYc T n pa ba e tu)) (h2 : σ pa = some (PCc k nm p)) (hp : T.2.2.1[e.1]? = some p) (ho : p.2.2.2.2.1 ≤ 2) (htk : tk < 2 ^ 31) (hwho : who < 2) {K : Bool → Hp → Prop} (hK : K (myE T e tk who) σ) : C_X2_mayBe l G (d + 2) a (nI tk) (nI who) σ K := by
  refine m_X2_mayBe (rv_at h ⟨_, rfl⟩) ?_
  simp only [F_X2_mayBe_35, F_X2_mayBe_30, F_X2_mayBe_34, F_X2_mayBe]
  refine s_X2_hasRoom (d := d) h htk ?_
  simp only [fI_at (h), fZ_at (h), fJ_at (h), fR_at (h), fN_at (h), pF_at (h), rI2_0, rP2_0, rR2_1, rN2_1, rP2_1, rR2_2, rN2_2, rP2_2, rI2_3, rP2_3, rI2_4, rP2_4, rI2_5, rP2_5, rI2_6, rP2_6, rI2_7, rP2_7, rR2_8, rN2_8, rP2_8, fI_at (h2), fZ_at (h2), fJ_at (h2), fR_at (h2), fN_at (h2), pF_at (h2), rI5_0, rP5_0, rJ5_1, rP5_1, rI5_2, rP5_2, rI5_3, rP5_3, rI5_4, rP5_4, rZ5_5, rP5_5, rI5_6, rP5_6]
  have how : ow T e = p.2.2.2.2.1 := by simp [ow, hp]
  unfold myE at hK
  rw [how] at hK
  have e1 : ownI p.2.2.2.2.1 = -1 ↔ p.2.2.2.2.1 = 0 := by
    unfold ownI
    by_cases h0 : p.2.2.2.2.1 = 0
    · rw [if_pos h0]; simp [h0]
    · rw [if_neg h0]; exact ⟨fun hc => absurd hc (nI_nm1 (by omega)), fun hc => absurd hc h0⟩
  have e2 : p.2.2.2.2.1 ≠ 0 → (ownI p.2.2.2.2.1 = nI who ↔ p.2.2.2.2.1 = who + 1) := by
    intro h0
    unfold ownI
    rw [if_neg h0, nt_eq (by omega) (by omega)]
    omega
  rw [e1]
  refine ⟨fun c => kif hK (by simp [c]), fun c => ⟨fun c1 => kif hK (by simp [c, c1]), fun c1 => ⟨fun c2 => kif hK ?_, fun c2 => kif hK ?_⟩⟩⟩
  · rw [e2 c1] at c2; simp [c1, c2]
  · rw [e2 c1] at c2; simp [c, c2]
end LEAF
