/-! THE MODEL: its heap as a function of its values (written by wip/whole/mkmdl.py) -/
abbrev MS : Type := (Nat → Int32) × (Nat → Bool) × (Nat → Nat → Int32) × (Nat → Int64)
def mf (A : Nat → Nat) (S : MS) : List AV := [aI (S.1 0), aR (some (A 1)), aI (S.1 2), aI (S.1 3), aI (S.1 4), aI (S.1 5), aI (S.1 6), aI (S.1 7), aI (S.1 8), aI (S.1 9), aI (S.1 10), aI (S.1 11), aR (some (A 12)), aI (bi (S.2.1 13)), aI (bi (S.2.1 14)), aR (some (A 15)), aR (some (A 16)), aR (some (A 17)), aR (some (A 18)), aR (some (A 19)), aR (some (A 20)), aI (S.1 21), aI (S.1 22), aR (some (A 23)), aR (some (A 24)), aR (some (A 25)), aR (some (A 26)), aR (some (A 27)), aR (some (A 28)), aR (some (A 29)), aI (S.1 30), aR (some (A 31)), aR (some (A 32)), aR (some (A 33)), aR (some (A 34)), aR (some (A 35)), aR (some (A 36)), aR (some (A 37)), aI (S.1 38), aR (some (A 39)), aI (S.1 40), aI (S.1 41)]
def mks : List Nat := [1, 12, 15, 16, 17, 18, 19, 20, 23, 24, 25, 26, 27, 28, 29, 31, 32, 33, 34, 35, 36, 37, 39]
def mln : Nat → Nat := fun k => if k = 1 then 900 else if k = 12 then 8 else if k = 15 then 100 else if k = 16 then 100 else if k = 17 then 16 else if k = 18 then 16 else if k = 19 then 256 else if k = 20 then 48 else if k = 23 then 224 else if k = 24 then 224 else if k = 25 then 224 else if k = 26 then 224 else if k = 27 then 224 else if k = 28 then 224 else if k = 29 then 224 else if k = 31 then 32768 else if k = 32 then 32768 else if k = 33 then 32768 else if k = 34 then 32768 else if k = 35 then 32768 else if k = 36 then 32768 else if k = 37 then 32768 else if k = 39 then 201 else 0
def mcell (S : MS) (k : Nat) : CE := if k = 37 then jA 32768 S.2.2.2 else iA (mln k) (S.2.2.1 k)
def mh (m : Nat) (A : Nat → Nat) (S : MS) (ρ : Hp) : Hp := fun q => if q = m then some (.inl (12, mf A S)) else match mks.find? (fun k => A k == q) with
  | some k => some (mcell S k)
  | none => ρ q
/-- the model's addresses are apart -/
def okA (m : Nat) (A : Nat → Nat) : Prop := (∀ j k, j ∈ mks → k ∈ mks → A j = A k → j = k) ∧ ∀ k, k ∈ mks → A k ≠ m
def seti (S : MS) (k : Nat) (v : Int32) : MS := (up_ S.1 k v, S.2)
def setb (S : MS) (k : Nat) (v : Bool) : MS := (S.1, up_ S.2.1 k v, S.2.2)
def seta (S : MS) (k : Nat) (f : Nat → Int32) : MS := (S.1, S.2.1, up_ S.2.2.1 k f, S.2.2.2)
def setj (S : MS) (f : Nat → Int64) : MS := (S.1, S.2.1, S.2.2.1, f)
section MH
variable {m : Nat} {A : Nat → Nat} {S : MS} {ρ : Hp}
theorem mh_o : mh m A S ρ m = some (.inl (12, mf A S)) := by simp [mh]
theorem mh_find (hA : okA m A) {k : Nat} (hk : k ∈ mks) : mks.find? (fun j => A j == A k) = some k := by
  cases h : mks.find? (fun j => A j == A k) with
  | none => exact absurd (List.find?_eq_none.mp h k hk) (by simp)
  | some j =>
    have h1 := List.find?_some h
    have h2 := List.mem_of_find?_eq_some h
    rw [hA.1 j k h2 hk (by simpa using h1)]
theorem mh_a (hA : okA m A) {k : Nat} (hk : k ∈ mks) : mh m A S ρ (A k) = some (mcell S k) := by
  simp only [mh, if_neg (hA.2 k hk), mh_find hA hk]
theorem mh_setO {S' : MS} {l : List AV} (hl : l = mf A S') (ha : S'.2.2 = S.2.2) : hset (mh m A S ρ) m (.inl (12, l)) = mh m A S' ρ := by
  subst hl
  funext q
  by_cases h : q = m
  · subst h; rw [hset_eq, mh_o]
  · rw [hset_ne h]
    simp only [mh, if_neg h, mcell, ha]
theorem mh_setC (hA : okA m A) {S' : MS} {k : Nat} {c : CE} (hk : k ∈ mks) (hf : mf A S' = mf A S) (hc : c = mcell S' k) (ho : ∀ j, j ∈ mks → j ≠ k → mcell S' j = mcell S j) : hset (mh m A S ρ) (A k) c = mh m A S' ρ := by
  subst hc
  funext q
  by_cases h : q = A k
  · subst h; rw [hset_eq, mh_a hA hk]
  · rw [hset_ne h]
    by_cases h2 : q = m
    · subst h2; rw [mh_o, mh_o, hf]
    · simp only [mh, if_neg h2]
      cases h3 : mks.find? (fun j => A j == q) with
      | none => rfl
      | some j =>
        have e1 := List.find?_some h3
        have e2 := List.mem_of_find?_eq_some h3
        have e3 : A j = q := by simpa using e1
        simp only
        rw [ho j e2 (fun e => h (by rw [← e3, e]))]
theorem mh_r {q : Nat} (h1 : q ≠ m) (h2 : ∀ k, k ∈ mks → A k ≠ q) : mh m A S ρ q = ρ q := by
  have h3 : mks.find? (fun j => A j == q) = none := List.find?_eq_none.mpr fun k hk => by simpa using h2 k hk
  simp only [mh, if_neg h1, h3]
theorem rv_m : rv (mh m A S ρ) m 12 := ⟨_, mh_o⟩
theorem mfI {k : Nat} {v : Int32} {K : Int32 → Prop} (h : (mf A S)[k]? = some (aI v)) : fI (mh m A S ρ) m 12 k K = K v := by
  apply propext
  constructor
  · rintro ⟨fs, w, h1, h2, h3⟩
    rw [mh_o] at h1
    cases h1
    rw [h] at h2
    cases h2
    exact h3
  · exact fun h3 => ⟨_, v, mh_o, h, h3⟩
theorem bi_inj {a b : Bool} (h : bi a = bi b) : a = b := by cases a <;> cases b <;> first | rfl | exact absurd h (by decide)
theorem aI_inj {x y : Int32} (h : aI x = aI y) : x = y := by cases h; rfl
theorem mfZ {k : Nat} {v : Bool} {K : Bool → Prop} (h : (mf A S)[k]? = some (aI (bi v))) : fZ (mh m A S ρ) m 12 k K = K v := by
  apply propext
  constructor
  · rintro ⟨fs, w, h1, h2, h3⟩
    rw [mh_o] at h1
    cases h1
    rw [h] at h2
    rw [bi_inj (aI_inj (Option.some.inj h2))]
    exact h3
  · exact fun h3 => ⟨_, v, mh_o, h, h3⟩
theorem mfN {k a : Nat} {K : Nat → Prop} (h : (mf A S)[k]? = some (aR (some a))) : fN (mh m A S ρ) m 12 k K = K a := by
  apply propext
  constructor
  · rintro ⟨fs, w, h1, h2, h3⟩
    rw [mh_o] at h1
    cases h1
    rw [h] at h2
    cases h2
    exact h3
  · exact fun h3 => ⟨_, a, mh_o, h, h3⟩
theorem mpF {k : Nat} {v : AV} {S' : MS} {K : Hp → Prop} (hl : (mf A S).set k v = mf A S') (ha : S'.2.2 = S.2.2) : pF (mh m A S ρ) m 12 k v K = K (mh m A S' ρ) := by
  apply propext
  constructor
  · rintro ⟨fs, h1, h3⟩
    rw [mh_o] at h1
    cases h1
    rw [mh_setO hl ha] at h3
    exact h3
  · exact fun h3 => ⟨_, mh_o, by rw [mh_setO hl ha]; exact h3⟩
theorem iA_inj {N M : Nat} {f g : Nat → Int32} (h : iA N f = iA M g) : N = M ∧ f = g := by
  simp only [iA] at h
  have h1 := Sum.inr.inj h
  simp only [Prod.mk.injEq, true_and] at h1
  refine ⟨h1.1, funext fun j => ?_⟩
  have := congrFun h1.2 j
  simpa using this
theorem jA_inj {N M : Nat} {f g : Nat → Int64} (h : jA N f = jA M g) : N = M ∧ f = g := by
  simp only [jA] at h
  have h1 := Sum.inr.inj h
  simp only [Prod.mk.injEq, true_and] at h1
  refine ⟨h1.1, funext fun j => ?_⟩
  have := congrFun h1.2 j
  simpa using this
theorem mgI (hA : okA m A) {k : Nat} {i : Int32} {K : Int32 → Prop} (hk : k ∈ mks) (h37 : k ≠ 37) : gI (mh m A S ρ) (A k) i K = (vp_in i (mln k) ∧ K (S.2.2.1 k i.toNatClampNeg)) := by
  have e : mh m A S ρ (A k) = some (iA (mln k) (S.2.2.1 k)) := by rw [mh_a hA hk, mcell, if_neg h37]
  apply propext
  constructor
  · rintro ⟨N, f, h1, h2, h3⟩
    rw [e] at h1
    obtain ⟨rfl, rfl⟩ := iA_inj (Option.some.inj h1)
    exact ⟨h2, h3⟩
  · exact fun h3 => ⟨_, _, e, h3.1, h3.2⟩
theorem mgJ (hA : okA m A) {i : Int32} {K : Int64 → Prop} : gJ (mh m A S ρ) (A 37) i K = (vp_in i 32768 ∧ K (S.2.2.2 i.toNatClampNeg)) := by
  have e : mh m A S ρ (A 37) = some (jA 32768 S.2.2.2) := by rw [mh_a hA (by decide), mcell, if_pos rfl]
  apply propext
  constructor
  · rintro ⟨N, f, h1, h2, h3⟩
    rw [e] at h1
    obtain ⟨rfl, rfl⟩ := jA_inj (Option.some.inj h1)
    exact ⟨h2, h3⟩
  · exact fun h3 => ⟨_, _, e, h3.1, h3.2⟩
theorem mf_seta {k : Nat} {f : Nat → Int32} : mf A (seta S k f) = mf A S := rfl
theorem mf_setj {f : Nat → Int64} : mf A (setj S f) = mf A S := rfl
theorem mh_seta (hA : okA m A) {k : Nat} {f : Nat → Int32} (hk : k ∈ mks) (h37 : k ≠ 37) : hset (mh m A S ρ) (A k) (iA (mln k) f) = mh m A (seta S k f) ρ := by
  refine mh_setC hA hk mf_seta (by simp [mcell, h37, seta, up_]) fun j hj hne => ?_
  simp [mcell, seta, up_, hne]
theorem mh_setj (hA : okA m A) {f : Nat → Int64} : hset (mh m A S ρ) (A 37) (jA 32768 f) = mh m A (setj S f) ρ := by
  refine mh_setC hA (by decide) mf_setj (by simp [mcell, setj]) fun j hj hne => ?_
  simp [mcell, setj, hne]
theorem msI (hA : okA m A) {k : Nat} {i x : Int32} {K : Hp → Prop} (hk : k ∈ mks) (h37 : k ≠ 37) : sI (mh m A S ρ) (A k) i x K = (vp_in i (mln k) ∧ K (mh m A (seta S k (up_ (S.2.2.1 k) i.toNatClampNeg x)) ρ)) := by
  have e : mh m A S ρ (A k) = some (iA (mln k) (S.2.2.1 k)) := by rw [mh_a hA hk, mcell, if_neg h37]
  apply propext
  constructor
  · rintro ⟨N, f, h1, h2, h3⟩
    rw [e] at h1
    obtain ⟨rfl, rfl⟩ := iA_inj (Option.some.inj h1)
    rw [mh_seta hA hk h37] at h3
    exact ⟨h2, h3⟩
  · exact fun h3 => ⟨_, _, e, h3.1, by rw [mh_seta hA hk h37]; exact h3.2⟩
theorem msJ (hA : okA m A) {i : Int32} {x : Int64} {K : Hp → Prop} : sJ (mh m A S ρ) (A 37) i x K = (vp_in i 32768 ∧ K (mh m A (setj S (up_ S.2.2.2 i.toNatClampNeg x)) ρ)) := by
  have e : mh m A S ρ (A 37) = some (jA 32768 S.2.2.2) := by rw [mh_a hA (by decide), mcell, if_pos rfl]
  apply propext
  constructor
  · rintro ⟨N, f, h1, h2, h3⟩
    rw [e] at h1
    obtain ⟨rfl, rfl⟩ := jA_inj (Option.some.inj h1)
    rw [mh_setj hA] at h3
    exact ⟨h2, h3⟩
  · exact fun h3 => ⟨_, _, e, h3.1, by rw [mh_setj hA]; exact h3.2⟩
theorem mfI_0 {K : Int32 → Prop} : fI (mh m A S ρ) m 12 0 K = K (S.1 0) := mfI rfl
theorem mpI_0 {v : Int32} {K : Hp → Prop} : pF (mh m A S ρ) m 12 0 (aI v) K = K (mh m A (seti S 0 v) ρ) := mpF rfl rfl
theorem mfN_1 {K : Nat → Prop} : fN (mh m A S ρ) m 12 1 K = K (A 1) := mfN rfl
theorem mfI_2 {K : Int32 → Prop} : fI (mh m A S ρ) m 12 2 K = K (S.1 2) := mfI rfl
theorem mpI_2 {v : Int32} {K : Hp → Prop} : pF (mh m A S ρ) m 12 2 (aI v) K = K (mh m A (seti S 2 v) ρ) := mpF rfl rfl
theorem mfI_3 {K : Int32 → Prop} : fI (mh m A S ρ) m 12 3 K = K (S.1 3) := mfI rfl
theorem mpI_3 {v : Int32} {K : Hp → Prop} : pF (mh m A S ρ) m 12 3 (aI v) K = K (mh m A (seti S 3 v) ρ) := mpF rfl rfl
theorem mfI_4 {K : Int32 → Prop} : fI (mh m A S ρ) m 12 4 K = K (S.1 4) := mfI rfl
theorem mpI_4 {v : Int32} {K : Hp → Prop} : pF (mh m A S ρ) m 12 4 (aI v) K = K (mh m A (seti S 4 v) ρ) := mpF rfl rfl
theorem mfI_5 {K : Int32 → Prop} : fI (mh m A S ρ) m 12 5 K = K (S.1 5) := mfI rfl
theorem mpI_5 {v : Int32} {K : Hp → Prop} : pF (mh m A S ρ) m 12 5 (aI v) K = K (mh m A (seti S 5 v) ρ) := mpF rfl rfl
theorem mfI_6 {K : Int32 → Prop} : fI (mh m A S ρ) m 12 6 K = K (S.1 6) := mfI rfl
theorem mpI_6 {v : Int32} {K : Hp → Prop} : pF (mh m A S ρ) m 12 6 (aI v) K = K (mh m A (seti S 6 v) ρ) := mpF rfl rfl
theorem mfI_7 {K : Int32 → Prop} : fI (mh m A S ρ) m 12 7 K = K (S.1 7) := mfI rfl
theorem mpI_7 {v : Int32} {K : Hp → Prop} : pF (mh m A S ρ) m 12 7 (aI v) K = K (mh m A (seti S 7 v) ρ) := mpF rfl rfl
theorem mfI_8 {K : Int32 → Prop} : fI (mh m A S ρ) m 12 8 K = K (S.1 8) := mfI rfl
theorem mpI_8 {v : Int32} {K : Hp → Prop} : pF (mh m A S ρ) m 12 8 (aI v) K = K (mh m A (seti S 8 v) ρ) := mpF rfl rfl
theorem mfI_9 {K : Int32 → Prop} : fI (mh m A S ρ) m 12 9 K = K (S.1 9) := mfI rfl
theorem mpI_9 {v : Int32} {K : Hp → Prop} : pF (mh m A S ρ) m 12 9 (aI v) K = K (mh m A (seti S 9 v) ρ) := mpF rfl rfl
theorem mfI_10 {K : Int32 → Prop} : fI (mh m A S ρ) m 12 10 K = K (S.1 10) := mfI rfl
theorem mpI_10 {v : Int32} {K : Hp → Prop} : pF (mh m A S ρ) m 12 10 (aI v) K = K (mh m A (seti S 10 v) ρ) := mpF rfl rfl
theorem mfI_11 {K : Int32 → Prop} : fI (mh m A S ρ) m 12 11 K = K (S.1 11) := mfI rfl
theorem mpI_11 {v : Int32} {K : Hp → Prop} : pF (mh m A S ρ) m 12 11 (aI v) K = K (mh m A (seti S 11 v) ρ) := mpF rfl rfl
theorem mfN_12 {K : Nat → Prop} : fN (mh m A S ρ) m 12 12 K = K (A 12) := mfN rfl
theorem mfZ_13 {K : Bool → Prop} : fZ (mh m A S ρ) m 12 13 K = K (S.2.1 13) := mfZ rfl
theorem mpZ_13 {v : Bool} {K : Hp → Prop} : pF (mh m A S ρ) m 12 13 (aI (bi v)) K = K (mh m A (setb S 13 v) ρ) := mpF rfl rfl
theorem mfZ_14 {K : Bool → Prop} : fZ (mh m A S ρ) m 12 14 K = K (S.2.1 14) := mfZ rfl
theorem mpZ_14 {v : Bool} {K : Hp → Prop} : pF (mh m A S ρ) m 12 14 (aI (bi v)) K = K (mh m A (setb S 14 v) ρ) := mpF rfl rfl
theorem mfN_15 {K : Nat → Prop} : fN (mh m A S ρ) m 12 15 K = K (A 15) := mfN rfl
theorem mfN_16 {K : Nat → Prop} : fN (mh m A S ρ) m 12 16 K = K (A 16) := mfN rfl
theorem mfN_17 {K : Nat → Prop} : fN (mh m A S ρ) m 12 17 K = K (A 17) := mfN rfl
theorem mfN_18 {K : Nat → Prop} : fN (mh m A S ρ) m 12 18 K = K (A 18) := mfN rfl
theorem mfN_19 {K : Nat → Prop} : fN (mh m A S ρ) m 12 19 K = K (A 19) := mfN rfl
theorem mfN_20 {K : Nat → Prop} : fN (mh m A S ρ) m 12 20 K = K (A 20) := mfN rfl
theorem mfI_21 {K : Int32 → Prop} : fI (mh m A S ρ) m 12 21 K = K (S.1 21) := mfI rfl
theorem mpI_21 {v : Int32} {K : Hp → Prop} : pF (mh m A S ρ) m 12 21 (aI v) K = K (mh m A (seti S 21 v) ρ) := mpF rfl rfl
theorem mfI_22 {K : Int32 → Prop} : fI (mh m A S ρ) m 12 22 K = K (S.1 22) := mfI rfl
theorem mpI_22 {v : Int32} {K : Hp → Prop} : pF (mh m A S ρ) m 12 22 (aI v) K = K (mh m A (seti S 22 v) ρ) := mpF rfl rfl
theorem mfN_23 {K : Nat → Prop} : fN (mh m A S ρ) m 12 23 K = K (A 23) := mfN rfl
theorem mfN_24 {K : Nat → Prop} : fN (mh m A S ρ) m 12 24 K = K (A 24) := mfN rfl
theorem mfN_25 {K : Nat → Prop} : fN (mh m A S ρ) m 12 25 K = K (A 25) := mfN rfl
theorem mfN_26 {K : Nat → Prop} : fN (mh m A S ρ) m 12 26 K = K (A 26) := mfN rfl
theorem mfN_27 {K : Nat → Prop} : fN (mh m A S ρ) m 12 27 K = K (A 27) := mfN rfl
theorem mfN_28 {K : Nat → Prop} : fN (mh m A S ρ) m 12 28 K = K (A 28) := mfN rfl
theorem mfN_29 {K : Nat → Prop} : fN (mh m A S ρ) m 12 29 K = K (A 29) := mfN rfl
theorem mfI_30 {K : Int32 → Prop} : fI (mh m A S ρ) m 12 30 K = K (S.1 30) := mfI rfl
theorem mpI_30 {v : Int32} {K : Hp → Prop} : pF (mh m A S ρ) m 12 30 (aI v) K = K (mh m A (seti S 30 v) ρ) := mpF rfl rfl
theorem mfN_31 {K : Nat → Prop} : fN (mh m A S ρ) m 12 31 K = K (A 31) := mfN rfl
theorem mfN_32 {K : Nat → Prop} : fN (mh m A S ρ) m 12 32 K = K (A 32) := mfN rfl
theorem mfN_33 {K : Nat → Prop} : fN (mh m A S ρ) m 12 33 K = K (A 33) := mfN rfl
theorem mfN_34 {K : Nat → Prop} : fN (mh m A S ρ) m 12 34 K = K (A 34) := mfN rfl
theorem mfN_35 {K : Nat → Prop} : fN (mh m A S ρ) m 12 35 K = K (A 35) := mfN rfl
theorem mfN_36 {K : Nat → Prop} : fN (mh m A S ρ) m 12 36 K = K (A 36) := mfN rfl
theorem mfN_37 {K : Nat → Prop} : fN (mh m A S ρ) m 12 37 K = K (A 37) := mfN rfl
theorem mfI_38 {K : Int32 → Prop} : fI (mh m A S ρ) m 12 38 K = K (S.1 38) := mfI rfl
theorem mpI_38 {v : Int32} {K : Hp → Prop} : pF (mh m A S ρ) m 12 38 (aI v) K = K (mh m A (seti S 38 v) ρ) := mpF rfl rfl
theorem mfN_39 {K : Nat → Prop} : fN (mh m A S ρ) m 12 39 K = K (A 39) := mfN rfl
theorem mfI_40 {K : Int32 → Prop} : fI (mh m A S ρ) m 12 40 K = K (S.1 40) := mfI rfl
theorem mpI_40 {v : Int32} {K : Hp → Prop} : pF (mh m A S ρ) m 12 40 (aI v) K = K (mh m A (seti S 40 v) ρ) := mpF rfl rfl
theorem mfI_41 {K : Int32 → Prop} : fI (mh m A S ρ) m 12 41 K = K (S.1 41) := mfI rfl
theorem mpI_41 {v : Int32} {K : Hp → Prop} : pF (mh m A S ρ) m 12 41 (aI v) K = K (mh m A (seti S 41 v) ρ) := mpF rfl rfl
theorem mgI_1 (hA : okA m A) {i : Int32} {K : Int32 → Prop} : gI (mh m A S ρ) (A 1) i K = (vp_in i 900 ∧ K (S.2.2.1 1 i.toNatClampNeg)) := mgI hA (by decide) (by decide)
theorem msI_1 (hA : okA m A) {i x : Int32} {K : Hp → Prop} : sI (mh m A S ρ) (A 1) i x K = (vp_in i 900 ∧ K (mh m A (seta S 1 (up_ (S.2.2.1 1) i.toNatClampNeg x)) ρ)) := msI hA (by decide) (by decide)
theorem mgI_12 (hA : okA m A) {i : Int32} {K : Int32 → Prop} : gI (mh m A S ρ) (A 12) i K = (vp_in i 8 ∧ K (S.2.2.1 12 i.toNatClampNeg)) := mgI hA (by decide) (by decide)
theorem msI_12 (hA : okA m A) {i x : Int32} {K : Hp → Prop} : sI (mh m A S ρ) (A 12) i x K = (vp_in i 8 ∧ K (mh m A (seta S 12 (up_ (S.2.2.1 12) i.toNatClampNeg x)) ρ)) := msI hA (by decide) (by decide)
theorem mgI_15 (hA : okA m A) {i : Int32} {K : Int32 → Prop} : gI (mh m A S ρ) (A 15) i K = (vp_in i 100 ∧ K (S.2.2.1 15 i.toNatClampNeg)) := mgI hA (by decide) (by decide)
theorem msI_15 (hA : okA m A) {i x : Int32} {K : Hp → Prop} : sI (mh m A S ρ) (A 15) i x K = (vp_in i 100 ∧ K (mh m A (seta S 15 (up_ (S.2.2.1 15) i.toNatClampNeg x)) ρ)) := msI hA (by decide) (by decide)
theorem mgI_16 (hA : okA m A) {i : Int32} {K : Int32 → Prop} : gI (mh m A S ρ) (A 16) i K = (vp_in i 100 ∧ K (S.2.2.1 16 i.toNatClampNeg)) := mgI hA (by decide) (by decide)
theorem msI_16 (hA : okA m A) {i x : Int32} {K : Hp → Prop} : sI (mh m A S ρ) (A 16) i x K = (vp_in i 100 ∧ K (mh m A (seta S 16 (up_ (S.2.2.1 16) i.toNatClampNeg x)) ρ)) := msI hA (by decide) (by decide)
theorem mgI_17 (hA : okA m A) {i : Int32} {K : Int32 → Prop} : gI (mh m A S ρ) (A 17) i K = (vp_in i 16 ∧ K (S.2.2.1 17 i.toNatClampNeg)) := mgI hA (by decide) (by decide)
theorem msI_17 (hA : okA m A) {i x : Int32} {K : Hp → Prop} : sI (mh m A S ρ) (A 17) i x K = (vp_in i 16 ∧ K (mh m A (seta S 17 (up_ (S.2.2.1 17) i.toNatClampNeg x)) ρ)) := msI hA (by decide) (by decide)
theorem mgI_18 (hA : okA m A) {i : Int32} {K : Int32 → Prop} : gI (mh m A S ρ) (A 18) i K = (vp_in i 16 ∧ K (S.2.2.1 18 i.toNatClampNeg)) := mgI hA (by decide) (by decide)
theorem msI_18 (hA : okA m A) {i x : Int32} {K : Hp → Prop} : sI (mh m A S ρ) (A 18) i x K = (vp_in i 16 ∧ K (mh m A (seta S 18 (up_ (S.2.2.1 18) i.toNatClampNeg x)) ρ)) := msI hA (by decide) (by decide)
theorem mgI_19 (hA : okA m A) {i : Int32} {K : Int32 → Prop} : gI (mh m A S ρ) (A 19) i K = (vp_in i 256 ∧ K (S.2.2.1 19 i.toNatClampNeg)) := mgI hA (by decide) (by decide)
theorem msI_19 (hA : okA m A) {i x : Int32} {K : Hp → Prop} : sI (mh m A S ρ) (A 19) i x K = (vp_in i 256 ∧ K (mh m A (seta S 19 (up_ (S.2.2.1 19) i.toNatClampNeg x)) ρ)) := msI hA (by decide) (by decide)
theorem mgI_20 (hA : okA m A) {i : Int32} {K : Int32 → Prop} : gI (mh m A S ρ) (A 20) i K = (vp_in i 48 ∧ K (S.2.2.1 20 i.toNatClampNeg)) := mgI hA (by decide) (by decide)
theorem msI_20 (hA : okA m A) {i x : Int32} {K : Hp → Prop} : sI (mh m A S ρ) (A 20) i x K = (vp_in i 48 ∧ K (mh m A (seta S 20 (up_ (S.2.2.1 20) i.toNatClampNeg x)) ρ)) := msI hA (by decide) (by decide)
theorem mgI_23 (hA : okA m A) {i : Int32} {K : Int32 → Prop} : gI (mh m A S ρ) (A 23) i K = (vp_in i 224 ∧ K (S.2.2.1 23 i.toNatClampNeg)) := mgI hA (by decide) (by decide)
theorem msI_23 (hA : okA m A) {i x : Int32} {K : Hp → Prop} : sI (mh m A S ρ) (A 23) i x K = (vp_in i 224 ∧ K (mh m A (seta S 23 (up_ (S.2.2.1 23) i.toNatClampNeg x)) ρ)) := msI hA (by decide) (by decide)
theorem mgI_24 (hA : okA m A) {i : Int32} {K : Int32 → Prop} : gI (mh m A S ρ) (A 24) i K = (vp_in i 224 ∧ K (S.2.2.1 24 i.toNatClampNeg)) := mgI hA (by decide) (by decide)
theorem msI_24 (hA : okA m A) {i x : Int32} {K : Hp → Prop} : sI (mh m A S ρ) (A 24) i x K = (vp_in i 224 ∧ K (mh m A (seta S 24 (up_ (S.2.2.1 24) i.toNatClampNeg x)) ρ)) := msI hA (by decide) (by decide)
theorem mgI_25 (hA : okA m A) {i : Int32} {K : Int32 → Prop} : gI (mh m A S ρ) (A 25) i K = (vp_in i 224 ∧ K (S.2.2.1 25 i.toNatClampNeg)) := mgI hA (by decide) (by decide)
theorem msI_25 (hA : okA m A) {i x : Int32} {K : Hp → Prop} : sI (mh m A S ρ) (A 25) i x K = (vp_in i 224 ∧ K (mh m A (seta S 25 (up_ (S.2.2.1 25) i.toNatClampNeg x)) ρ)) := msI hA (by decide) (by decide)
theorem mgI_26 (hA : okA m A) {i : Int32} {K : Int32 → Prop} : gI (mh m A S ρ) (A 26) i K = (vp_in i 224 ∧ K (S.2.2.1 26 i.toNatClampNeg)) := mgI hA (by decide) (by decide)
theorem msI_26 (hA : okA m A) {i x : Int32} {K : Hp → Prop} : sI (mh m A S ρ) (A 26) i x K = (vp_in i 224 ∧ K (mh m A (seta S 26 (up_ (S.2.2.1 26) i.toNatClampNeg x)) ρ)) := msI hA (by decide) (by decide)
theorem mgI_27 (hA : okA m A) {i : Int32} {K : Int32 → Prop} : gI (mh m A S ρ) (A 27) i K = (vp_in i 224 ∧ K (S.2.2.1 27 i.toNatClampNeg)) := mgI hA (by decide) (by decide)
theorem msI_27 (hA : okA m A) {i x : Int32} {K : Hp → Prop} : sI (mh m A S ρ) (A 27) i x K = (vp_in i 224 ∧ K (mh m A (seta S 27 (up_ (S.2.2.1 27) i.toNatClampNeg x)) ρ)) := msI hA (by decide) (by decide)
theorem mgI_28 (hA : okA m A) {i : Int32} {K : Int32 → Prop} : gI (mh m A S ρ) (A 28) i K = (vp_in i 224 ∧ K (S.2.2.1 28 i.toNatClampNeg)) := mgI hA (by decide) (by decide)
theorem msI_28 (hA : okA m A) {i x : Int32} {K : Hp → Prop} : sI (mh m A S ρ) (A 28) i x K = (vp_in i 224 ∧ K (mh m A (seta S 28 (up_ (S.2.2.1 28) i.toNatClampNeg x)) ρ)) := msI hA (by decide) (by decide)
theorem mgI_29 (hA : okA m A) {i : Int32} {K : Int32 → Prop} : gI (mh m A S ρ) (A 29) i K = (vp_in i 224 ∧ K (S.2.2.1 29 i.toNatClampNeg)) := mgI hA (by decide) (by decide)
theorem msI_29 (hA : okA m A) {i x : Int32} {K : Hp → Prop} : sI (mh m A S ρ) (A 29) i x K = (vp_in i 224 ∧ K (mh m A (seta S 29 (up_ (S.2.2.1 29) i.toNatClampNeg x)) ρ)) := msI hA (by decide) (by decide)
theorem mgI_31 (hA : okA m A) {i : Int32} {K : Int32 → Prop} : gI (mh m A S ρ) (A 31) i K = (vp_in i 32768 ∧ K (S.2.2.1 31 i.toNatClampNeg)) := mgI hA (by decide) (by decide)
theorem msI_31 (hA : okA m A) {i x : Int32} {K : Hp → Prop} : sI (mh m A S ρ) (A 31) i x K = (vp_in i 32768 ∧ K (mh m A (seta S 31 (up_ (S.2.2.1 31) i.toNatClampNeg x)) ρ)) := msI hA (by decide) (by decide)
theorem mgI_32 (hA : okA m A) {i : Int32} {K : Int32 → Prop} : gI (mh m A S ρ) (A 32) i K = (vp_in i 32768 ∧ K (S.2.2.1 32 i.toNatClampNeg)) := mgI hA (by decide) (by decide)
theorem msI_32 (hA : okA m A) {i x : Int32} {K : Hp → Prop} : sI (mh m A S ρ) (A 32) i x K = (vp_in i 32768 ∧ K (mh m A (seta S 32 (up_ (S.2.2.1 32) i.toNatClampNeg x)) ρ)) := msI hA (by decide) (by decide)
theorem mgI_33 (hA : okA m A) {i : Int32} {K : Int32 → Prop} : gI (mh m A S ρ) (A 33) i K = (vp_in i 32768 ∧ K (S.2.2.1 33 i.toNatClampNeg)) := mgI hA (by decide) (by decide)
theorem msI_33 (hA : okA m A) {i x : Int32} {K : Hp → Prop} : sI (mh m A S ρ) (A 33) i x K = (vp_in i 32768 ∧ K (mh m A (seta S 33 (up_ (S.2.2.1 33) i.toNatClampNeg x)) ρ)) := msI hA (by decide) (by decide)
theorem mgI_34 (hA : okA m A) {i : Int32} {K : Int32 → Prop} : gI (mh m A S ρ) (A 34) i K = (vp_in i 32768 ∧ K (S.2.2.1 34 i.toNatClampNeg)) := mgI hA (by decide) (by decide)
theorem msI_34 (hA : okA m A) {i x : Int32} {K : Hp → Prop} : sI (mh m A S ρ) (A 34) i x K = (vp_in i 32768 ∧ K (mh m A (seta S 34 (up_ (S.2.2.1 34) i.toNatClampNeg x)) ρ)) := msI hA (by decide) (by decide)
theorem mgI_35 (hA : okA m A) {i : Int32} {K : Int32 → Prop} : gI (mh m A S ρ) (A 35) i K = (vp_in i 32768 ∧ K (S.2.2.1 35 i.toNatClampNeg)) := mgI hA (by decide) (by decide)
theorem msI_35 (hA : okA m A) {i x : Int32} {K : Hp → Prop} : sI (mh m A S ρ) (A 35) i x K = (vp_in i 32768 ∧ K (mh m A (seta S 35 (up_ (S.2.2.1 35) i.toNatClampNeg x)) ρ)) := msI hA (by decide) (by decide)
theorem mgI_36 (hA : okA m A) {i : Int32} {K : Int32 → Prop} : gI (mh m A S ρ) (A 36) i K = (vp_in i 32768 ∧ K (S.2.2.1 36 i.toNatClampNeg)) := mgI hA (by decide) (by decide)
theorem msI_36 (hA : okA m A) {i x : Int32} {K : Hp → Prop} : sI (mh m A S ρ) (A 36) i x K = (vp_in i 32768 ∧ K (mh m A (seta S 36 (up_ (S.2.2.1 36) i.toNatClampNeg x)) ρ)) := msI hA (by decide) (by decide)
theorem mgI_39 (hA : okA m A) {i : Int32} {K : Int32 → Prop} : gI (mh m A S ρ) (A 39) i K = (vp_in i 201 ∧ K (S.2.2.1 39 i.toNatClampNeg)) := mgI hA (by decide) (by decide)
theorem msI_39 (hA : okA m A) {i x : Int32} {K : Hp → Prop} : sI (mh m A S ρ) (A 39) i x K = (vp_in i 201 ∧ K (mh m A (seta S 39 (up_ (S.2.2.1 39) i.toNatClampNeg x)) ρ)) := msI hA (by decide) (by decide)
end MH
