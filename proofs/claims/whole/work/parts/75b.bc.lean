/-! Integer.bitCount, of small numbers -/
def bcI (v : Int32) : Int32 :=
  let a := v - ((usr v 1) &&& 1431655765)
  let b := (a &&& 858993459) + ((usr a 2) &&& 858993459)
  let c := (b + usr b 4) &&& 252645135
  let e := c + usr c 8
  let f := e + usr e 16
  f &&& 63
theorem s_J6_bc {l : Launch} {G : GG} {d : Nat} {σ : Hp} {v : Int32} {K : Int32 → Hp → Prop} (hK : K (bcI v) σ) : C_J6_bitCount_0f7a4 l G (d + 1) v σ K := by
  refine m_J6_bitCount_0f7a4 ?_
  exact hK
def bcN (v : Nat) : Nat :=
  let a := v - ((v / 2) &&& 1431655765)
  let b := (a &&& 858993459) + ((a / 4) &&& 858993459)
  let c := (b + b / 16) &&& 252645135
  let e := c + c / 256
  let f := e + e / 65536
  f &&& 63
theorem usr_n {n : Nat} (hn : n < 2 ^ 31) (k : Nat) (hk : k = 1 ∨ k = 2 ∨ k = 4 ∨ k = 8 ∨ k = 16) : usr (nI n) (nI k) = nI (n / 2 ^ k) := by
  rcases hk with rfl | rfl | rfl | rfl | rfl
  all_goals exact pk_ushrN (by omega) _ _ (by decide)
theorem bc_nat {m : Nat} (hm : m < 16384) : bcI (nI m) = nI (bcN m) := by
  have hle : ∀ a b : Nat, a &&& b ≤ a := fun _ _ => Nat.and_le_left
  have ha : m - ((m / 2) &&& 1431655765) < 16384 := by omega
  have e1 : nI m - (usr (nI m) 1 &&& 1431655765) = nI (m - ((m / 2) &&& 1431655765)) := by
    rw [show (1 : Int32) = nI 1 from rfl, usr_n (by omega) 1 (by simp), show (1431655765 : Int32) = nI 1431655765 from rfl, nt_and, nt_sub (Nat.le_trans (hle _ _) (by omega)) (by omega)]
  unfold bcI bcN
  simp only [e1]
  generalize m - ((m / 2) &&& 1431655765) = a at ha
  have e2 : (nI a &&& 858993459) + (usr (nI a) 2 &&& 858993459) = nI ((a &&& 858993459) + ((a / 4) &&& 858993459)) := by
    rw [show (2 : Int32) = nI 2 from rfl, usr_n (by omega) 2 (by simp), show (858993459 : Int32) = nI 858993459 from rfl, nt_and, nt_and, nt_add]
  have hb : (a &&& 858993459) + ((a / 4) &&& 858993459) < 32768 := by
    have := hle a 858993459
    have := hle (a / 4) 858993459
    omega
  simp only [e2]
  generalize (a &&& 858993459) + ((a / 4) &&& 858993459) = b at hb
  have e3 : (nI b + usr (nI b) 4) &&& 252645135 = nI ((b + b / 16) &&& 252645135) := by
    rw [show (4 : Int32) = nI 4 from rfl, usr_n (by omega) 4 (by simp), show (252645135 : Int32) = nI 252645135 from rfl, nt_add, nt_and]
  have hc : (b + b / 16) &&& 252645135 < 65536 := Nat.lt_of_le_of_lt (hle _ _) (by omega)
  simp only [e3]
  generalize (b + b / 16) &&& 252645135 = c at hc
  have e4 : nI c + usr (nI c) 8 = nI (c + c / 256) := by
    rw [show (8 : Int32) = nI 8 from rfl, usr_n (by omega) 8 (by simp), nt_add]
  have he : c + c / 256 < 131072 := by omega
  simp only [e4]
  generalize c + c / 256 = e at he
  rw [show (16 : Int32) = nI 16 from rfl, usr_n (by omega) 16 (by simp), show (63 : Int32) = nI 63 from rfl, nt_add, nt_and]
theorem bc_all : ((List.range 16384).all fun m => Nat.beq (bcN m) (cnt m)) = true := by decide +kernel
theorem bc_of {m : Nat} (hm : m < 16384) : bcI (nI m) = nI (cnt m) := by
  have h := List.all_eq_true.mp bc_all m (List.mem_range.mpr hm)
  rw [bc_nat hm, Nat.eq_of_beq_eq_true h]
