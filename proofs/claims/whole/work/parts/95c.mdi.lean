/-! MAKING: the model -/
section MK12
variable {l : Launch} {G : GG} {d mc ms m : Nat} {σ : Hp} {v0 : Nat}
/-- the model's state at first -/
def ms0 : MS := (fun k => if k = 10 then -1 else 0, fun _ => false, fun _ _ => 0, fun _ => 0)
theorem MI_0 : MI ST0 ms0 := ⟨⟨rfl, fun j hj => by cases hj⟩, ⟨rfl, fun e => (by cases e), rfl⟩, ⟨rfl, rfl⟩, fun k u hu => absurd (show ([] : List RO)[k]? = some u from hu) (by simp), fun k u hu => absurd (show ([] : List RO)[k]? = some u from hu) (by simp), rfl, fun T hT => by cases hT⟩
theorem mh_self {A : Nat → Nat} {S : MS} (h0 : σ m = some (.inl (12, mf A S))) (ha : ∀ k, k ∈ mks → σ (A k) = some (mcell S k)) : mh m A S σ = σ := by
  funext q
  by_cases e : q = m
  · subst e; rw [mh_o, h0]
  · simp only [mh, if_neg e]
    cases h3 : mks.find? (fun j => A j == q) with
    | none => rfl
    | some j =>
      have e1 := List.find?_some h3
      have e2 := List.mem_of_find?_eq_some h3
      have e3 : A j = q := by simpa using e1
      rw [← e3, ha j e2]
theorem mks_inj : ∀ j ∈ mks, ∀ k ∈ mks, mks.idxOf j = mks.idxOf k → j = k := by decide
theorem mks_lt : ∀ j ∈ mks, mks.idxOf j < 23 := by decide
theorem ix_1 : mks.idxOf 1 = 0 := by decide
theorem ix_12 : mks.idxOf 12 = 1 := by decide
theorem ix_15 : mks.idxOf 15 = 2 := by decide
theorem ix_16 : mks.idxOf 16 = 3 := by decide
theorem ix_17 : mks.idxOf 17 = 4 := by decide
theorem ix_18 : mks.idxOf 18 = 5 := by decide
theorem ix_19 : mks.idxOf 19 = 6 := by decide
theorem ix_20 : mks.idxOf 20 = 7 := by decide
theorem ix_23 : mks.idxOf 23 = 8 := by decide
theorem ix_24 : mks.idxOf 24 = 9 := by decide
theorem ix_25 : mks.idxOf 25 = 10 := by decide
theorem ix_26 : mks.idxOf 26 = 11 := by decide
theorem ix_27 : mks.idxOf 27 = 12 := by decide
theorem ix_28 : mks.idxOf 28 = 13 := by decide
theorem ix_29 : mks.idxOf 29 = 14 := by decide
theorem ix_31 : mks.idxOf 31 = 15 := by decide
theorem ix_32 : mks.idxOf 32 = 16 := by decide
theorem ix_33 : mks.idxOf 33 = 17 := by decide
theorem ix_34 : mks.idxOf 34 = 18 := by decide
theorem ix_35 : mks.idxOf 35 = 19 := by decide
theorem ix_36 : mks.idxOf 36 = 20 := by decide
theorem ix_37 : mks.idxOf 37 = 21 := by decide
theorem ix_39 : mks.idxOf 39 = 22 := by decide
/-- the model's fields by the addresses told so far -/
def mfA (A : Nat → Option Nat) (pl : Int32) : List AV := [aI 0, aR (A 1), aI 0, aI 0, aI 0, aI 0, aI 0, aI 0, aI 0, aI 0, aI pl, aI 0, aR (A 12), aI (bi false), aI (bi false), aR (A 15), aR (A 16), aR (A 17), aR (A 18), aR (A 19), aR (A 20), aI 0, aI 0, aR (A 23), aR (A 24), aR (A 25), aR (A 26), aR (A 27), aR (A 28), aR (A 29), aI 0, aR (A 31), aR (A 32), aR (A 33), aR (A 34), aR (A 35), aR (A 36), aR (A 37), aI 0, aR (A 39), aI 0, aI 0]
theorem mfA_1 (A : Nat → Option Nat) (pl : Int32) (v : Nat) : (mfA A pl).set 1 (aR (some v)) = mfA (up_ A 1 (some v)) pl := rfl
theorem mfA_12 (A : Nat → Option Nat) (pl : Int32) (v : Nat) : (mfA A pl).set 12 (aR (some v)) = mfA (up_ A 12 (some v)) pl := rfl
theorem mfA_15 (A : Nat → Option Nat) (pl : Int32) (v : Nat) : (mfA A pl).set 15 (aR (some v)) = mfA (up_ A 15 (some v)) pl := rfl
theorem mfA_16 (A : Nat → Option Nat) (pl : Int32) (v : Nat) : (mfA A pl).set 16 (aR (some v)) = mfA (up_ A 16 (some v)) pl := rfl
theorem mfA_17 (A : Nat → Option Nat) (pl : Int32) (v : Nat) : (mfA A pl).set 17 (aR (some v)) = mfA (up_ A 17 (some v)) pl := rfl
theorem mfA_18 (A : Nat → Option Nat) (pl : Int32) (v : Nat) : (mfA A pl).set 18 (aR (some v)) = mfA (up_ A 18 (some v)) pl := rfl
theorem mfA_19 (A : Nat → Option Nat) (pl : Int32) (v : Nat) : (mfA A pl).set 19 (aR (some v)) = mfA (up_ A 19 (some v)) pl := rfl
theorem mfA_20 (A : Nat → Option Nat) (pl : Int32) (v : Nat) : (mfA A pl).set 20 (aR (some v)) = mfA (up_ A 20 (some v)) pl := rfl
theorem mfA_23 (A : Nat → Option Nat) (pl : Int32) (v : Nat) : (mfA A pl).set 23 (aR (some v)) = mfA (up_ A 23 (some v)) pl := rfl
theorem mfA_24 (A : Nat → Option Nat) (pl : Int32) (v : Nat) : (mfA A pl).set 24 (aR (some v)) = mfA (up_ A 24 (some v)) pl := rfl
theorem mfA_25 (A : Nat → Option Nat) (pl : Int32) (v : Nat) : (mfA A pl).set 25 (aR (some v)) = mfA (up_ A 25 (some v)) pl := rfl
theorem mfA_26 (A : Nat → Option Nat) (pl : Int32) (v : Nat) : (mfA A pl).set 26 (aR (some v)) = mfA (up_ A 26 (some v)) pl := rfl
theorem mfA_27 (A : Nat → Option Nat) (pl : Int32) (v : Nat) : (mfA A pl).set 27 (aR (some v)) = mfA (up_ A 27 (some v)) pl := rfl
theorem mfA_28 (A : Nat → Option Nat) (pl : Int32) (v : Nat) : (mfA A pl).set 28 (aR (some v)) = mfA (up_ A 28 (some v)) pl := rfl
theorem mfA_29 (A : Nat → Option Nat) (pl : Int32) (v : Nat) : (mfA A pl).set 29 (aR (some v)) = mfA (up_ A 29 (some v)) pl := rfl
theorem mfA_31 (A : Nat → Option Nat) (pl : Int32) (v : Nat) : (mfA A pl).set 31 (aR (some v)) = mfA (up_ A 31 (some v)) pl := rfl
theorem mfA_32 (A : Nat → Option Nat) (pl : Int32) (v : Nat) : (mfA A pl).set 32 (aR (some v)) = mfA (up_ A 32 (some v)) pl := rfl
theorem mfA_33 (A : Nat → Option Nat) (pl : Int32) (v : Nat) : (mfA A pl).set 33 (aR (some v)) = mfA (up_ A 33 (some v)) pl := rfl
theorem mfA_34 (A : Nat → Option Nat) (pl : Int32) (v : Nat) : (mfA A pl).set 34 (aR (some v)) = mfA (up_ A 34 (some v)) pl := rfl
theorem mfA_35 (A : Nat → Option Nat) (pl : Int32) (v : Nat) : (mfA A pl).set 35 (aR (some v)) = mfA (up_ A 35 (some v)) pl := rfl
theorem mfA_36 (A : Nat → Option Nat) (pl : Int32) (v : Nat) : (mfA A pl).set 36 (aR (some v)) = mfA (up_ A 36 (some v)) pl := rfl
theorem mfA_37 (A : Nat → Option Nat) (pl : Int32) (v : Nat) : (mfA A pl).set 37 (aR (some v)) = mfA (up_ A 37 (some v)) pl := rfl
theorem mfA_39 (A : Nat → Option Nat) (pl : Int32) (v : Nat) : (mfA A pl).set 39 (aR (some v)) = mfA (up_ A 39 (some v)) pl := rfl
theorem mfA_10 (A : Nat → Option Nat) (pl v : Int32) : (mfA A pl).set 10 (aI v) = mfA A v := rfl
theorem mf_A (A : Nat → Nat) : mf A ms0 = mfA (fun k => some (A k)) (-1) := rfl
theorem mfA_cg {A B : Nat → Option Nat} {pl : Int32} (h : ∀ k, k ∈ mks → A k = B k) : mfA A pl = mfA B pl := by
  unfold mfA
  rw [h 1 (by decide), h 12 (by decide), h 15 (by decide), h 16 (by decide), h 17 (by decide), h 18 (by decide), h 19 (by decide), h 20 (by decide), h 23 (by decide), h 24 (by decide), h 25 (by decide), h 26 (by decide), h 27 (by decide), h 28 (by decide), h 29 (by decide), h 31 (by decide), h 32 (by decide), h 33 (by decide), h 34 (by decide), h 35 (by decide), h 36 (by decide), h 37 (by decide), h 39 (by decide)]
set_option maxRecDepth 100000 in
theorem s_X12_init (h : σ v0 = some (.inl (12, [aI 0, aR none, aI 0, aI 0, aI 0, aI 0, aI 0, aI 0, aI 0, aI 0, aI 0, aI 0, aR none, aI (bi false), aI (bi false), aR none, aR none, aR none, aR none, aR none, aR none, aI 0, aI 0, aR none, aR none, aR none, aR none, aR none, aR none, aR none, aI 0, aR none, aR none, aR none, aR none, aR none, aR none, aR none, aI 0, aR none, aI 0, aI 0]))) (hmc : 23 ≤ mc) (hms : 240000 ≤ ms) {K : Hp → Prop} (hK : ∀ A σ', okA v0 A → mh v0 A ms0 σ' = σ' → Kp (fun z => z = v0) σ σ' → (∀ k, k ∈ mks → σ (A k) = none) → K σ') : C_X12_init l G (d + 1) mc ms v0 σ K := by
  have h' : σ v0 = some (.inl (12, mfA (fun _ => none) 0)) := h
  clear h
  refine m_X12_init ?_
  simp only [F_X12_init]
  refine mk_I (Rn.one h') rfl rfl (j := 1) (N := 900) rfl (by decide) (by omega) (by omega) fun P1 C1 σ1 a1 b1 x1 c1 d1 e1 => ?_
  rw [mfA_1] at c1
  have hb1 : 22 ≤ mc - 1 := by omega
  have hs1 : 231689 ≤ ms - 900 := by omega
  generalize mc - 1 = bc1 at hb1 ⊢
  generalize ms - 900 = bs1 at hs1 ⊢
  clear hmc hms
  refine mk_s a1 b1 c1 (j := 10) fun C1' σ1' a1' c1' d1' => ?_
  rw [mfA_10] at c1'
  refine mk_I a1' b1 c1' (j := 12) (N := 8) rfl (by decide) (by omega) (by omega) fun P2 C2 σ2 a2 b2 x2 c2 d2 e2 => ?_
  rw [mfA_12] at c2
  have hb2 : 21 ≤ bc1 - 1 := by omega
  have hs2 : 231681 ≤ bs1 - 8 := by omega
  generalize bc1 - 1 = bc2 at hb2 ⊢
  generalize bs1 - 8 = bs2 at hs2 ⊢
  clear hb1 hs1
  refine mk_I a2 b2 c2 (j := 15) (N := 100) rfl (by decide) (by omega) (by omega) fun P3 C3 σ3 a3 b3 x3 c3 d3 e3 => ?_
  rw [mfA_15] at c3
  have hb3 : 20 ≤ bc2 - 1 := by omega
  have hs3 : 231581 ≤ bs2 - 100 := by omega
  generalize bc2 - 1 = bc3 at hb3 ⊢
  generalize bs2 - 100 = bs3 at hs3 ⊢
  clear hb2 hs2
  refine mk_I a3 b3 c3 (j := 16) (N := 100) rfl (by decide) (by omega) (by omega) fun P4 C4 σ4 a4 b4 x4 c4 d4 e4 => ?_
  rw [mfA_16] at c4
  have hb4 : 19 ≤ bc3 - 1 := by omega
  have hs4 : 231481 ≤ bs3 - 100 := by omega
  generalize bc3 - 1 = bc4 at hb4 ⊢
  generalize bs3 - 100 = bs4 at hs4 ⊢
  clear hb3 hs3
  refine mk_I a4 b4 c4 (j := 17) (N := 16) rfl (by decide) (by omega) (by omega) fun P5 C5 σ5 a5 b5 x5 c5 d5 e5 => ?_
  rw [mfA_17] at c5
  have hb5 : 18 ≤ bc4 - 1 := by omega
  have hs5 : 231465 ≤ bs4 - 16 := by omega
  generalize bc4 - 1 = bc5 at hb5 ⊢
  generalize bs4 - 16 = bs5 at hs5 ⊢
  clear hb4 hs4
  refine mk_I a5 b5 c5 (j := 18) (N := 16) rfl (by decide) (by omega) (by omega) fun P6 C6 σ6 a6 b6 x6 c6 d6 e6 => ?_
  rw [mfA_18] at c6
  have hb6 : 17 ≤ bc5 - 1 := by omega
  have hs6 : 231449 ≤ bs5 - 16 := by omega
  generalize bc5 - 1 = bc6 at hb6 ⊢
  generalize bs5 - 16 = bs6 at hs6 ⊢
  clear hb5 hs5
  refine mk_I a6 b6 c6 (j := 19) (N := 256) rfl (by decide) (by omega) (by omega) fun P7 C7 σ7 a7 b7 x7 c7 d7 e7 => ?_
  rw [mfA_19] at c7
  have hb7 : 16 ≤ bc6 - 1 := by omega
  have hs7 : 231193 ≤ bs6 - 256 := by omega
  generalize bc6 - 1 = bc7 at hb7 ⊢
  generalize bs6 - 256 = bs7 at hs7 ⊢
  clear hb6 hs6
  refine mk_I a7 b7 c7 (j := 20) (N := 48) rfl (by decide) (by omega) (by omega) fun P8 C8 σ8 a8 b8 x8 c8 d8 e8 => ?_
  rw [mfA_20] at c8
  have hb8 : 15 ≤ bc7 - 1 := by omega
  have hs8 : 231145 ≤ bs7 - 48 := by omega
  generalize bc7 - 1 = bc8 at hb8 ⊢
  generalize bs7 - 48 = bs8 at hs8 ⊢
  clear hb7 hs7
  refine mk_I a8 b8 c8 (j := 23) (N := 224) rfl (by decide) (by omega) (by omega) fun P9 C9 σ9 a9 b9 x9 c9 d9 e9 => ?_
  rw [mfA_23] at c9
  have hb9 : 14 ≤ bc8 - 1 := by omega
  have hs9 : 230921 ≤ bs8 - 224 := by omega
  generalize bc8 - 1 = bc9 at hb9 ⊢
  generalize bs8 - 224 = bs9 at hs9 ⊢
  clear hb8 hs8
  refine mk_I a9 b9 c9 (j := 24) (N := 224) rfl (by decide) (by omega) (by omega) fun P10 C10 σ10 a10 b10 x10 c10 d10 e10 => ?_
  rw [mfA_24] at c10
  have hb10 : 13 ≤ bc9 - 1 := by omega
  have hs10 : 230697 ≤ bs9 - 224 := by omega
  generalize bc9 - 1 = bc10 at hb10 ⊢
  generalize bs9 - 224 = bs10 at hs10 ⊢
  clear hb9 hs9
  refine mk_I a10 b10 c10 (j := 25) (N := 224) rfl (by decide) (by omega) (by omega) fun P11 C11 σ11 a11 b11 x11 c11 d11 e11 => ?_
  rw [mfA_25] at c11
  have hb11 : 12 ≤ bc10 - 1 := by omega
  have hs11 : 230473 ≤ bs10 - 224 := by omega
  generalize bc10 - 1 = bc11 at hb11 ⊢
  generalize bs10 - 224 = bs11 at hs11 ⊢
  clear hb10 hs10
  refine mk_I a11 b11 c11 (j := 26) (N := 224) rfl (by decide) (by omega) (by omega) fun P12 C12 σ12 a12 b12 x12 c12 d12 e12 => ?_
  rw [mfA_26] at c12
  have hb12 : 11 ≤ bc11 - 1 := by omega
  have hs12 : 230249 ≤ bs11 - 224 := by omega
  generalize bc11 - 1 = bc12 at hb12 ⊢
  generalize bs11 - 224 = bs12 at hs12 ⊢
  clear hb11 hs11
  refine mk_I a12 b12 c12 (j := 27) (N := 224) rfl (by decide) (by omega) (by omega) fun P13 C13 σ13 a13 b13 x13 c13 d13 e13 => ?_
  rw [mfA_27] at c13
  have hb13 : 10 ≤ bc12 - 1 := by omega
  have hs13 : 230025 ≤ bs12 - 224 := by omega
  generalize bc12 - 1 = bc13 at hb13 ⊢
  generalize bs12 - 224 = bs13 at hs13 ⊢
  clear hb12 hs12
  refine mk_I a13 b13 c13 (j := 28) (N := 224) rfl (by decide) (by omega) (by omega) fun P14 C14 σ14 a14 b14 x14 c14 d14 e14 => ?_
  rw [mfA_28] at c14
  have hb14 : 9 ≤ bc13 - 1 := by omega
  have hs14 : 229801 ≤ bs13 - 224 := by omega
  generalize bc13 - 1 = bc14 at hb14 ⊢
  generalize bs13 - 224 = bs14 at hs14 ⊢
  clear hb13 hs13
  refine mk_I a14 b14 c14 (j := 29) (N := 224) rfl (by decide) (by omega) (by omega) fun P15 C15 σ15 a15 b15 x15 c15 d15 e15 => ?_
  rw [mfA_29] at c15
  have hb15 : 8 ≤ bc14 - 1 := by omega
  have hs15 : 229577 ≤ bs14 - 224 := by omega
  generalize bc14 - 1 = bc15 at hb15 ⊢
  generalize bs14 - 224 = bs15 at hs15 ⊢
  clear hb14 hs14
  refine mk_I a15 b15 c15 (j := 31) (N := 32768) rfl (by decide) (by omega) (by omega) fun P16 C16 σ16 a16 b16 x16 c16 d16 e16 => ?_
  rw [mfA_31] at c16
  have hb16 : 7 ≤ bc15 - 1 := by omega
  have hs16 : 196809 ≤ bs15 - 32768 := by omega
  generalize bc15 - 1 = bc16 at hb16 ⊢
  generalize bs15 - 32768 = bs16 at hs16 ⊢
  clear hb15 hs15
  refine mk_I a16 b16 c16 (j := 32) (N := 32768) rfl (by decide) (by omega) (by omega) fun P17 C17 σ17 a17 b17 x17 c17 d17 e17 => ?_
  rw [mfA_32] at c17
  have hb17 : 6 ≤ bc16 - 1 := by omega
  have hs17 : 164041 ≤ bs16 - 32768 := by omega
  generalize bc16 - 1 = bc17 at hb17 ⊢
  generalize bs16 - 32768 = bs17 at hs17 ⊢
  clear hb16 hs16
  refine mk_I a17 b17 c17 (j := 33) (N := 32768) rfl (by decide) (by omega) (by omega) fun P18 C18 σ18 a18 b18 x18 c18 d18 e18 => ?_
  rw [mfA_33] at c18
  have hb18 : 5 ≤ bc17 - 1 := by omega
  have hs18 : 131273 ≤ bs17 - 32768 := by omega
  generalize bc17 - 1 = bc18 at hb18 ⊢
  generalize bs17 - 32768 = bs18 at hs18 ⊢
  clear hb17 hs17
  refine mk_I a18 b18 c18 (j := 34) (N := 32768) rfl (by decide) (by omega) (by omega) fun P19 C19 σ19 a19 b19 x19 c19 d19 e19 => ?_
  rw [mfA_34] at c19
  have hb19 : 4 ≤ bc18 - 1 := by omega
  have hs19 : 98505 ≤ bs18 - 32768 := by omega
  generalize bc18 - 1 = bc19 at hb19 ⊢
  generalize bs18 - 32768 = bs19 at hs19 ⊢
  clear hb18 hs18
  refine mk_I a19 b19 c19 (j := 35) (N := 32768) rfl (by decide) (by omega) (by omega) fun P20 C20 σ20 a20 b20 x20 c20 d20 e20 => ?_
  rw [mfA_35] at c20
  have hb20 : 3 ≤ bc19 - 1 := by omega
  have hs20 : 65737 ≤ bs19 - 32768 := by omega
  generalize bc19 - 1 = bc20 at hb20 ⊢
  generalize bs19 - 32768 = bs20 at hs20 ⊢
  clear hb19 hs19
  refine mk_I a20 b20 c20 (j := 36) (N := 32768) rfl (by decide) (by omega) (by omega) fun P21 C21 σ21 a21 b21 x21 c21 d21 e21 => ?_
  rw [mfA_36] at c21
  have hb21 : 2 ≤ bc20 - 1 := by omega
  have hs21 : 32969 ≤ bs20 - 32768 := by omega
  generalize bc20 - 1 = bc21 at hb21 ⊢
  generalize bs20 - 32768 = bs21 at hs21 ⊢
  clear hb20 hs20
  refine mk_J a21 b21 c21 (j := 37) (N := 32768) rfl (by decide) (by omega) (by omega) fun P22 C22 σ22 a22 b22 x22 c22 d22 e22 => ?_
  rw [mfA_37] at c22
  have hb22 : 1 ≤ bc21 - 1 := by omega
  have hs22 : 201 ≤ bs21 - 32768 := by omega
  generalize bc21 - 1 = bc22 at hb22 ⊢
  generalize bs21 - 32768 = bs22 at hs22 ⊢
  clear hb21 hs21
  refine mk_I a22 b22 c22 (j := 39) (N := 201) rfl (by decide) (by omega) (by omega) fun P23 C23 σ23 a23 b23 x23 c23 d23 e23 => ?_
  rw [mfA_39] at c23
  have hb23 : 0 ≤ bc22 - 1 := by omega
  have hs23 : 0 ≤ bs22 - 201 := by omega
  generalize bc22 - 1 = bc23 at hb23 ⊢
  generalize bs22 - 201 = bs23 at hs23 ⊢
  clear hb22 hs22
  have y23 : Ex 24 P23 P23 := fun _ _ => rfl
  have y22 : Ex 23 P22 P23 := fun k hk => (y23 k (by omega)).trans (x23 k hk)
  have y21 : Ex 22 P21 P23 := fun k hk => (y22 k (by omega)).trans (x22 k hk)
  have y20 : Ex 21 P20 P23 := fun k hk => (y21 k (by omega)).trans (x21 k hk)
  have y19 : Ex 20 P19 P23 := fun k hk => (y20 k (by omega)).trans (x20 k hk)
  have y18 : Ex 19 P18 P23 := fun k hk => (y19 k (by omega)).trans (x19 k hk)
  have y17 : Ex 18 P17 P23 := fun k hk => (y18 k (by omega)).trans (x18 k hk)
  have y16 : Ex 17 P16 P23 := fun k hk => (y17 k (by omega)).trans (x17 k hk)
  have y15 : Ex 16 P15 P23 := fun k hk => (y16 k (by omega)).trans (x16 k hk)
  have y14 : Ex 15 P14 P23 := fun k hk => (y15 k (by omega)).trans (x15 k hk)
  have y13 : Ex 14 P13 P23 := fun k hk => (y14 k (by omega)).trans (x14 k hk)
  have y12 : Ex 13 P12 P23 := fun k hk => (y13 k (by omega)).trans (x13 k hk)
  have y11 : Ex 12 P11 P23 := fun k hk => (y12 k (by omega)).trans (x12 k hk)
  have y10 : Ex 11 P10 P23 := fun k hk => (y11 k (by omega)).trans (x11 k hk)
  have y9 : Ex 10 P9 P23 := fun k hk => (y10 k (by omega)).trans (x10 k hk)
  have y8 : Ex 9 P8 P23 := fun k hk => (y9 k (by omega)).trans (x9 k hk)
  have y7 : Ex 8 P7 P23 := fun k hk => (y8 k (by omega)).trans (x8 k hk)
  have y6 : Ex 7 P6 P23 := fun k hk => (y7 k (by omega)).trans (x7 k hk)
  have y5 : Ex 6 P5 P23 := fun k hk => (y6 k (by omega)).trans (x6 k hk)
  have y4 : Ex 5 P4 P23 := fun k hk => (y5 k (by omega)).trans (x5 k hk)
  have y3 : Ex 4 P3 P23 := fun k hk => (y4 k (by omega)).trans (x4 k hk)
  have y2 : Ex 3 P2 P23 := fun k hk => (y3 k (by omega)).trans (x3 k hk)
  have y1 : Ex 2 P1 P23 := fun k hk => (y2 k (by omega)).trans (x2 k hk)
  have z23 : ∀ k, 0 < k → k < 24 → C23 k = C23 k := fun _ _ _ => rfl
  have z22 : ∀ k, 0 < k → k < 23 → C23 k = C22 k := fun k h1 h2 => (z23 k h1 (by omega)).trans (d23 k h1 h2)
  have z21 : ∀ k, 0 < k → k < 22 → C23 k = C21 k := fun k h1 h2 => (z22 k h1 (by omega)).trans (d22 k h1 h2)
  have z20 : ∀ k, 0 < k → k < 21 → C23 k = C20 k := fun k h1 h2 => (z21 k h1 (by omega)).trans (d21 k h1 h2)
  have z19 : ∀ k, 0 < k → k < 20 → C23 k = C19 k := fun k h1 h2 => (z20 k h1 (by omega)).trans (d20 k h1 h2)
  have z18 : ∀ k, 0 < k → k < 19 → C23 k = C18 k := fun k h1 h2 => (z19 k h1 (by omega)).trans (d19 k h1 h2)
  have z17 : ∀ k, 0 < k → k < 18 → C23 k = C17 k := fun k h1 h2 => (z18 k h1 (by omega)).trans (d18 k h1 h2)
  have z16 : ∀ k, 0 < k → k < 17 → C23 k = C16 k := fun k h1 h2 => (z17 k h1 (by omega)).trans (d17 k h1 h2)
  have z15 : ∀ k, 0 < k → k < 16 → C23 k = C15 k := fun k h1 h2 => (z16 k h1 (by omega)).trans (d16 k h1 h2)
  have z14 : ∀ k, 0 < k → k < 15 → C23 k = C14 k := fun k h1 h2 => (z15 k h1 (by omega)).trans (d15 k h1 h2)
  have z13 : ∀ k, 0 < k → k < 14 → C23 k = C13 k := fun k h1 h2 => (z14 k h1 (by omega)).trans (d14 k h1 h2)
  have z12 : ∀ k, 0 < k → k < 13 → C23 k = C12 k := fun k h1 h2 => (z13 k h1 (by omega)).trans (d13 k h1 h2)
  have z11 : ∀ k, 0 < k → k < 12 → C23 k = C11 k := fun k h1 h2 => (z12 k h1 (by omega)).trans (d12 k h1 h2)
  have z10 : ∀ k, 0 < k → k < 11 → C23 k = C10 k := fun k h1 h2 => (z11 k h1 (by omega)).trans (d11 k h1 h2)
  have z9 : ∀ k, 0 < k → k < 10 → C23 k = C9 k := fun k h1 h2 => (z10 k h1 (by omega)).trans (d10 k h1 h2)
  have z8 : ∀ k, 0 < k → k < 9 → C23 k = C8 k := fun k h1 h2 => (z9 k h1 (by omega)).trans (d9 k h1 h2)
  have z7 : ∀ k, 0 < k → k < 8 → C23 k = C7 k := fun k h1 h2 => (z8 k h1 (by omega)).trans (d8 k h1 h2)
  have z6 : ∀ k, 0 < k → k < 7 → C23 k = C6 k := fun k h1 h2 => (z7 k h1 (by omega)).trans (d7 k h1 h2)
  have z5 : ∀ k, 0 < k → k < 6 → C23 k = C5 k := fun k h1 h2 => (z6 k h1 (by omega)).trans (d6 k h1 h2)
  have z4 : ∀ k, 0 < k → k < 5 → C23 k = C4 k := fun k h1 h2 => (z5 k h1 (by omega)).trans (d5 k h1 h2)
  have z3 : ∀ k, 0 < k → k < 4 → C23 k = C3 k := fun k h1 h2 => (z4 k h1 (by omega)).trans (d4 k h1 h2)
  have z2 : ∀ k, 0 < k → k < 3 → C23 k = C2 k := fun k h1 h2 => (z3 k h1 (by omega)).trans (d3 k h1 h2)
  have z1 : ∀ k, 0 < k → k < 2 → C23 k = C1 k := fun k h1 h2 => (z2 k h1 (by omega)).trans ((d2 k h1 h2).trans (d1' k h1))
  have q1 : σ23 (P23 1) = some (C1 1) := (a23.2.2.1 1 (by decide)).trans (congrArg some (z1 1 (by decide) (by decide)))
  have q2 : σ23 (P23 2) = some (C2 2) := (a23.2.2.1 2 (by decide)).trans (congrArg some (z2 2 (by decide) (by decide)))
  have q3 : σ23 (P23 3) = some (C3 3) := (a23.2.2.1 3 (by decide)).trans (congrArg some (z3 3 (by decide) (by decide)))
  have q4 : σ23 (P23 4) = some (C4 4) := (a23.2.2.1 4 (by decide)).trans (congrArg some (z4 4 (by decide) (by decide)))
  have q5 : σ23 (P23 5) = some (C5 5) := (a23.2.2.1 5 (by decide)).trans (congrArg some (z5 5 (by decide) (by decide)))
  have q6 : σ23 (P23 6) = some (C6 6) := (a23.2.2.1 6 (by decide)).trans (congrArg some (z6 6 (by decide) (by decide)))
  have q7 : σ23 (P23 7) = some (C7 7) := (a23.2.2.1 7 (by decide)).trans (congrArg some (z7 7 (by decide) (by decide)))
  have q8 : σ23 (P23 8) = some (C8 8) := (a23.2.2.1 8 (by decide)).trans (congrArg some (z8 8 (by decide) (by decide)))
  have q9 : σ23 (P23 9) = some (C9 9) := (a23.2.2.1 9 (by decide)).trans (congrArg some (z9 9 (by decide) (by decide)))
  have q10 : σ23 (P23 10) = some (C10 10) := (a23.2.2.1 10 (by decide)).trans (congrArg some (z10 10 (by decide) (by decide)))
  have q11 : σ23 (P23 11) = some (C11 11) := (a23.2.2.1 11 (by decide)).trans (congrArg some (z11 11 (by decide) (by decide)))
  have q12 : σ23 (P23 12) = some (C12 12) := (a23.2.2.1 12 (by decide)).trans (congrArg some (z12 12 (by decide) (by decide)))
  have q13 : σ23 (P23 13) = some (C13 13) := (a23.2.2.1 13 (by decide)).trans (congrArg some (z13 13 (by decide) (by decide)))
  have q14 : σ23 (P23 14) = some (C14 14) := (a23.2.2.1 14 (by decide)).trans (congrArg some (z14 14 (by decide) (by decide)))
  have q15 : σ23 (P23 15) = some (C15 15) := (a23.2.2.1 15 (by decide)).trans (congrArg some (z15 15 (by decide) (by decide)))
  have q16 : σ23 (P23 16) = some (C16 16) := (a23.2.2.1 16 (by decide)).trans (congrArg some (z16 16 (by decide) (by decide)))
  have q17 : σ23 (P23 17) = some (C17 17) := (a23.2.2.1 17 (by decide)).trans (congrArg some (z17 17 (by decide) (by decide)))
  have q18 : σ23 (P23 18) = some (C18 18) := (a23.2.2.1 18 (by decide)).trans (congrArg some (z18 18 (by decide) (by decide)))
  have q19 : σ23 (P23 19) = some (C19 19) := (a23.2.2.1 19 (by decide)).trans (congrArg some (z19 19 (by decide) (by decide)))
  have q20 : σ23 (P23 20) = some (C20 20) := (a23.2.2.1 20 (by decide)).trans (congrArg some (z20 20 (by decide) (by decide)))
  have q21 : σ23 (P23 21) = some (C21 21) := (a23.2.2.1 21 (by decide)).trans (congrArg some (z21 21 (by decide) (by decide)))
  have q22 : σ23 (P23 22) = some (C22 22) := (a23.2.2.1 22 (by decide)).trans (congrArg some (z22 22 (by decide) (by decide)))
  have q23 : σ23 (P23 23) = some (C23 23) := (a23.2.2.1 23 (by decide)).trans (congrArg some (z23 23 (by decide) (by decide)))
  have hm0 : σ23 v0 = some (.inl (12, mf (fun k => P23 (mks.idxOf k + 1)) ms0)) := by
    rw [a23.v b23, c23, mf_A]
    refine congrArg (fun z => some (Sum.inl (12, z))) (mfA_cg fun k hk => ?_)
    simp only [mks, List.mem_cons, List.not_mem_nil, or_false] at hk
    rcases hk with rfl | rfl | rfl | rfl | rfl | rfl | rfl | rfl | rfl | rfl | rfl | rfl | rfl | rfl | rfl | rfl | rfl | rfl | rfl | rfl | rfl | rfl | rfl
    · simp only [up_a, Nat.reduceEqDiff, ↓reduceIte, ix_1, Nat.reduceAdd]
      rw [y1 1 (by decide)]
    · simp only [up_a, Nat.reduceEqDiff, ↓reduceIte, ix_12, Nat.reduceAdd]
      rw [y2 2 (by decide)]
    · simp only [up_a, Nat.reduceEqDiff, ↓reduceIte, ix_15, Nat.reduceAdd]
      rw [y3 3 (by decide)]
    · simp only [up_a, Nat.reduceEqDiff, ↓reduceIte, ix_16, Nat.reduceAdd]
      rw [y4 4 (by decide)]
    · simp only [up_a, Nat.reduceEqDiff, ↓reduceIte, ix_17, Nat.reduceAdd]
      rw [y5 5 (by decide)]
    · simp only [up_a, Nat.reduceEqDiff, ↓reduceIte, ix_18, Nat.reduceAdd]
      rw [y6 6 (by decide)]
    · simp only [up_a, Nat.reduceEqDiff, ↓reduceIte, ix_19, Nat.reduceAdd]
      rw [y7 7 (by decide)]
    · simp only [up_a, Nat.reduceEqDiff, ↓reduceIte, ix_20, Nat.reduceAdd]
      rw [y8 8 (by decide)]
    · simp only [up_a, Nat.reduceEqDiff, ↓reduceIte, ix_23, Nat.reduceAdd]
      rw [y9 9 (by decide)]
    · simp only [up_a, Nat.reduceEqDiff, ↓reduceIte, ix_24, Nat.reduceAdd]
      rw [y10 10 (by decide)]
    · simp only [up_a, Nat.reduceEqDiff, ↓reduceIte, ix_25, Nat.reduceAdd]
      rw [y11 11 (by decide)]
    · simp only [up_a, Nat.reduceEqDiff, ↓reduceIte, ix_26, Nat.reduceAdd]
      rw [y12 12 (by decide)]
    · simp only [up_a, Nat.reduceEqDiff, ↓reduceIte, ix_27, Nat.reduceAdd]
      rw [y13 13 (by decide)]
    · simp only [up_a, Nat.reduceEqDiff, ↓reduceIte, ix_28, Nat.reduceAdd]
      rw [y14 14 (by decide)]
    · simp only [up_a, Nat.reduceEqDiff, ↓reduceIte, ix_29, Nat.reduceAdd]
      rw [y15 15 (by decide)]
    · simp only [up_a, Nat.reduceEqDiff, ↓reduceIte, ix_31, Nat.reduceAdd]
      rw [y16 16 (by decide)]
    · simp only [up_a, Nat.reduceEqDiff, ↓reduceIte, ix_32, Nat.reduceAdd]
      rw [y17 17 (by decide)]
    · simp only [up_a, Nat.reduceEqDiff, ↓reduceIte, ix_33, Nat.reduceAdd]
      rw [y18 18 (by decide)]
    · simp only [up_a, Nat.reduceEqDiff, ↓reduceIte, ix_34, Nat.reduceAdd]
      rw [y19 19 (by decide)]
    · simp only [up_a, Nat.reduceEqDiff, ↓reduceIte, ix_35, Nat.reduceAdd]
      rw [y20 20 (by decide)]
    · simp only [up_a, Nat.reduceEqDiff, ↓reduceIte, ix_36, Nat.reduceAdd]
      rw [y21 21 (by decide)]
    · simp only [up_a, Nat.reduceEqDiff, ↓reduceIte, ix_37, Nat.reduceAdd]
      rw [y22 22 (by decide)]
    · simp only [up_a, Nat.reduceEqDiff, ↓reduceIte, ix_39, Nat.reduceAdd]
  have hma : ∀ k, k ∈ mks → σ23 (P23 (mks.idxOf k + 1)) = some (mcell ms0 k) := by
    intro k hk
    simp only [mks, List.mem_cons, List.not_mem_nil, or_false] at hk
    rcases hk with rfl | rfl | rfl | rfl | rfl | rfl | rfl | rfl | rfl | rfl | rfl | rfl | rfl | rfl | rfl | rfl | rfl | rfl | rfl | rfl | rfl | rfl | rfl
    · exact q1.trans (congrArg some e1)
    · exact q2.trans (congrArg some e2)
    · exact q3.trans (congrArg some e3)
    · exact q4.trans (congrArg some e4)
    · exact q5.trans (congrArg some e5)
    · exact q6.trans (congrArg some e6)
    · exact q7.trans (congrArg some e7)
    · exact q8.trans (congrArg some e8)
    · exact q9.trans (congrArg some e9)
    · exact q10.trans (congrArg some e10)
    · exact q11.trans (congrArg some e11)
    · exact q12.trans (congrArg some e12)
    · exact q13.trans (congrArg some e13)
    · exact q14.trans (congrArg some e14)
    · exact q15.trans (congrArg some e15)
    · exact q16.trans (congrArg some e16)
    · exact q17.trans (congrArg some e17)
    · exact q18.trans (congrArg some e18)
    · exact q19.trans (congrArg some e19)
    · exact q20.trans (congrArg some e20)
    · exact q21.trans (congrArg some e21)
    · exact q22.trans (congrArg some e22)
    · exact q23.trans (congrArg some e23)
  have hlt : ∀ k, k ∈ mks → mks.idxOf k + 1 < 24 := fun k hk => Nat.succ_lt_succ (mks_lt k hk)
  refine hK _ _ ⟨fun j k hj hk e => mks_inj j hj k hk ?_, fun k hk e => ?_⟩ (mh_self hm0 hma) (by have := a23.2.2.2.2; rw [b23] at this; exact this) fun k hk => a23.2.2.2.1 _ (by omega) (hlt k hk)
  · have := a23.2.1 _ _ (hlt j hj) (hlt k hk) e
    omega
  · have := a23.2.1 _ 0 (hlt k hk) (by decide) (e.trans b23.symm)
    omega
end MK12
