/-! Integer.numberOfTrailingZeros and bitCount, of small numbers -/
/-- what numberOfTrailingZeros comes to, as a number -/
def usr (x : Int32) (k : Int32) : Int32 := (x.toUInt32 >>> (k.toUInt32 &&& Int32.toUInt32 31)).toInt32
def ntz (v0 : Int32) : Int32 :=
  let x := (v0 ^^^ (-1)) &&& (v0 - 1)
  if 0 < x then (
    let p := if x ≤ 65536 then (x, (1 : Int32)) else (usr x 16, 1 + 16)
    let p := if p.1 ≤ 256 then p else (usr p.1 8, p.2 + 8)
    let p := if p.1 ≤ 16 then p else (usr p.1 4, p.2 + 4)
    let p := if p.1 ≤ 4 then p else (usr p.1 2, p.2 + 2)
    p.2 + usr p.1 1) else x &&& 32
theorem s_J6_ntz {l : Launch} {G : GG} {d : Nat} {σ : Hp} {v : Int32} {K : Int32 → Hp → Prop} (hK : K (ntz v) σ) : C_J6_numberOfTrailingZeros_0f7a4 l G (d + 1) v σ K := by
  refine m_J6_numberOfTrailingZeros_0f7a4 ?_
  have h74 : ∀ x n, K (n + usr x 1) σ → F_J6_numberOfTrailingZeros_0f7a4_74 l G d x n σ K := fun x n h => h
  have h62 : ∀ p : Int32 × Int32, (let p := if p.1 ≤ 4 then p else (usr p.1 2, p.2 + 2); K (p.2 + usr p.1 1) σ) → F_J6_numberOfTrailingZeros_0f7a4_62 l G d p.1 p.2 σ K := by
    intro p h
    exact ⟨fun c => h74 _ _ (by simpa only [if_pos c] using h), fun c => h74 (usr p.1 2) (p.2 + 2) (by simpa only [if_neg c] using h)⟩
  have h49 : ∀ p : Int32 × Int32, (let p := if p.1 ≤ 16 then p else (usr p.1 4, p.2 + 4); let p := if p.1 ≤ 4 then p else (usr p.1 2, p.2 + 2); K (p.2 + usr p.1 1) σ) → F_J6_numberOfTrailingZeros_0f7a4_49 l G d p.1 p.2 σ K := by
    intro p h
    exact ⟨fun c => h62 p (by simpa only [if_pos c] using h), fun c => h62 (usr p.1 4, p.2 + 4) (by simpa only [if_neg c] using h)⟩
  have h34 : ∀ p : Int32 × Int32, (let p := if p.1 ≤ 256 then p else (usr p.1 8, p.2 + 8); let p := if p.1 ≤ 16 then p else (usr p.1 4, p.2 + 4); let p := if p.1 ≤ 4 then p else (usr p.1 2, p.2 + 2); K (p.2 + usr p.1 1) σ) → F_J6_numberOfTrailingZeros_0f7a4_34 l G d p.1 p.2 σ K := by
    intro p h
    exact ⟨fun c => h49 p (by simpa only [if_pos c] using h), fun c => h49 (usr p.1 8, p.2 + 8) (by simpa only [if_neg c] using h)⟩
  unfold ntz at hK
  refine ⟨fun c => ⟨fun c2 => h34 ((v ^^^ (-1)) &&& (v - 1), 1) ?_, fun c2 => h34 (usr ((v ^^^ (-1)) &&& (v - 1)) 16, 1 + 16) ?_⟩, fun c => ?_⟩
  · simpa only [if_pos c, if_pos c2] using hK
  · simpa only [if_pos c, if_neg c2] using hK
  · simpa only [if_neg c] using hK
theorem ntz_all : ((List.range 15).all fun v => (List.range (2 ^ (14 - v))).all fun h => ntz (nI (2 ^ (v + 1) * h + (2 ^ v - 1)) ^^^ (-1)) == nI v) = true := by decide +kernel
theorem ntz_of {m v : Nat} (hm : m < 2 ^ 15) (hv : v < 15) (h1 : m.testBit v = false) (h2 : ∀ u, u < v → m.testBit u = true) : ntz (nI m ^^^ (-1)) = nI v := by
  have h3 : m % 2 ^ (v + 1) = 2 ^ v - 1 := by
    apply Nat.eq_of_testBit_eq
    intro i
    rw [Nat.testBit_mod_two_pow, Nat.testBit_two_pow_sub_one, Bool.eq_iff_iff]
    simp only [Bool.and_eq_true, decide_eq_true_eq]
    constructor
    · rintro ⟨h4, h5⟩
      rcases Nat.lt_or_ge i v with h6 | h6
      · exact h6
      · obtain rfl : i = v := by omega
        rw [h1] at h5; cases h5
    · intro h4; exact ⟨by omega, h2 i h4⟩
  have h4 : m / 2 ^ (v + 1) < 2 ^ (14 - v) := by
    rw [Nat.div_lt_iff_lt_mul (Nat.two_pow_pos _), ← Nat.pow_add, show 14 - v + (v + 1) = 15 by omega]
    exact hm
  have h := List.all_eq_true.mp (List.all_eq_true.mp ntz_all v (List.mem_range.mpr hv)) _ (List.mem_range.mpr h4)
  rw [← h3, Nat.div_add_mod] at h
  simpa using h
