/-! VERIFICATION CONDITIONS: the words in which a method's body is told over the abstract heap -/
def rv (σ : Hp) (a t : Nat) : Prop := ∃ fs, σ a = some (.inl (t, fs))
def fI (σ : Hp) (a t k : Nat) (K : Int32 → Prop) : Prop := ∃ fs v, σ a = some (.inl (t, fs)) ∧ fs[k]? = some (aI v) ∧ K v
def fZ (σ : Hp) (a t k : Nat) (K : Bool → Prop) : Prop := ∃ fs v, σ a = some (.inl (t, fs)) ∧ fs[k]? = some (aI (bi v)) ∧ K v
def fJ (σ : Hp) (a t k : Nat) (K : Int64 → Prop) : Prop := ∃ fs v, σ a = some (.inl (t, fs)) ∧ fs[k]? = some (aJ v) ∧ K v
def fR (σ : Hp) (a t k : Nat) (K : Option Nat → Prop) : Prop := ∃ fs v, σ a = some (.inl (t, fs)) ∧ fs[k]? = some (aR v) ∧ K v
def fN (σ : Hp) (a t k : Nat) (K : Nat → Prop) : Prop := ∃ fs v, σ a = some (.inl (t, fs)) ∧ fs[k]? = some (aR (some v)) ∧ K v
def pF (σ : Hp) (a t k : Nat) (v : AV) (K : Hp → Prop) : Prop := ∃ fs, σ a = some (.inl (t, fs)) ∧ K (hset σ a (.inl (t, fs.set k v)))
def iA (N : Nat) (f : Nat → Int32) : CE := .inr (0, N, fun j => aI (f j))
def zA (N : Nat) (f : Nat → Bool) : CE := .inr (1, N, fun j => aI (bi (f j)))
def jA (N : Nat) (f : Nat → Int64) : CE := .inr (2, N, fun j => aJ (f j))
def rA (t N : Nat) (f : Nat → Option Nat) : CE := .inr (t, N, fun j => aR (f j))
def gI (σ : Hp) (a : Nat) (i : Int32) (K : Int32 → Prop) : Prop := ∃ N f, σ a = some (iA N f) ∧ vp_in i N ∧ K (f i.toNatClampNeg)
def gZ (σ : Hp) (a : Nat) (i : Int32) (K : Bool → Prop) : Prop := ∃ N f, σ a = some (zA N f) ∧ vp_in i N ∧ K (f i.toNatClampNeg)
def gJ (σ : Hp) (a : Nat) (i : Int32) (K : Int64 → Prop) : Prop := ∃ N f, σ a = some (jA N f) ∧ vp_in i N ∧ K (f i.toNatClampNeg)
def gN (t : Nat) (σ : Hp) (a : Nat) (i : Int32) (K : Nat → Prop) : Prop := ∃ N f v, σ a = some (rA t N f) ∧ vp_in i N ∧ f i.toNatClampNeg = some v ∧ K v
def sI (σ : Hp) (a : Nat) (i x : Int32) (K : Hp → Prop) : Prop := ∃ N f, σ a = some (iA N f) ∧ vp_in i N ∧ K (hset σ a (iA N (up_ f i.toNatClampNeg x)))
def sZ (σ : Hp) (a : Nat) (i : Int32) (x : Bool) (K : Hp → Prop) : Prop := ∃ N f, σ a = some (zA N f) ∧ vp_in i N ∧ K (hset σ a (zA N (up_ f i.toNatClampNeg x)))
def sJ (σ : Hp) (a : Nat) (i : Int32) (x : Int64) (K : Hp → Prop) : Prop := ∃ N f, σ a = some (jA N f) ∧ vp_in i N ∧ K (hset σ a (jA N (up_ f i.toNatClampNeg x)))
def sN (t c : Nat) (σ : Hp) (a : Nat) (i : Int32) (x : Nat) (K : Hp → Prop) : Prop := ∃ N f, σ a = some (rA t N f) ∧ rv σ x c ∧ vp_in i N ∧ K (hset σ a (rA t N (up_ f i.toNatClampNeg (some x))))
/-- a store into an Object[]: of an object of one of the classes that csz names -/
def sO (σ : Hp) (a : Nat) (i : Int32) (x : Nat) (K : Hp → Prop) : Prop := ∃ N f t, σ a = some (rA 6 N f) ∧ rv σ x t ∧ (t = 0 ∨ t = 5 ∨ t = 2) ∧ vp_in i N ∧ K (hset σ a (rA 6 N (up_ f i.toNatClampNeg (some x))))
def aL (σ : Hp) (a : Nat) (K : Int32 → Prop) : Prop := ∃ t N f, σ a = some (.inr (t, N, f)) ∧ K (nI N)
def nO (σ : Hp) (t : Nat) (fs : List AV) (N bc bs : Nat) (K : Nat → Hp → Prop) : Prop := 1 ≤ bc ∧ N ≤ bs ∧ ∀ q, σ q = none → K q (hset σ q (.inl (t, fs)))
def nI_ (σ : Hp) (n : Int32) (bc bs : Nat) (K : Nat → Nat → Hp → Prop) : Prop := ∃ N, n = nI N ∧ N ≤ 60000000 ∧ 1 ≤ bc ∧ N ≤ bs ∧ ∀ q, σ q = none → K N q (hset σ q (iA N fun _ => 0))
def nZ_ (σ : Hp) (n : Int32) (bc bs : Nat) (K : Nat → Nat → Hp → Prop) : Prop := ∃ N, n = nI N ∧ N ≤ 60000000 ∧ 1 ≤ bc ∧ N ≤ bs ∧ ∀ q, σ q = none → K N q (hset σ q (zA N fun _ => false))
def nJ_ (σ : Hp) (n : Int32) (bc bs : Nat) (K : Nat → Nat → Hp → Prop) : Prop := ∃ N, n = nI N ∧ N ≤ 60000000 ∧ 1 ≤ bc ∧ N ≤ bs ∧ ∀ q, σ q = none → K N q (hset σ q (jA N fun _ => 0))
def nA_ (t : Nat) (σ : Hp) (n : Int32) (bc bs : Nat) (K : Nat → Nat → Hp → Prop) : Prop := ∃ N, n = nI N ∧ N ≤ 60000000 ∧ 1 ≤ bc ∧ N ≤ bs ∧ ∀ q, σ q = none → K N q (hset σ q (rA t N fun _ => none))
theorem fo_I (x : Int32) : narrow .int (av (aI x)) = av (aI x) ∧ fits .int (av (aI x)) = true := ⟨rfl, rfl⟩
theorem fo_J (x : Int64) : narrow .long (av (aJ x)) = av (aJ x) ∧ fits .long (av (aJ x)) = true := ⟨rfl, rfl⟩
theorem fo_Z (b : Bool) : narrow .boolean (av (aI (bi b))) = av (aI (bi b)) ∧ fits .boolean (av (aI (bi b))) = true := by cases b <;> exact ⟨rfl, rfl⟩
theorem fo_R (C : String) (o : Option Nat) : narrow (.object C) (av (aR o)) = av (aR o) ∧ fits (.object C) (av (aR o)) = true := by cases o <;> exact ⟨rfl, rfl⟩
theorem fo_A (t : FieldType) (o : Option Nat) : narrow (.array t) (av (aR o)) = av (aR o) ∧ fits (.array t) (av (aR o)) = true := by cases o <;> exact ⟨rfl, rfl⟩
theorem tab_out {x : Int32} {lo hi : Int} (h : ∀ k : Int, lo ≤ k → k ≤ hi → x.toInt ≠ k) : x.toInt < lo ∨ hi < x.toInt := by
  rcases Int.lt_or_le x.toInt lo with h1 | h1
  · exact Or.inl h1
  · rcases Int.lt_or_le hi x.toInt with h2 | h2
    · exact Or.inr h2
    · exact absurd rfl (h _ h1 h2)
theorem tab_ne {x v : Int32} {k : Int} (h : ¬ x = v) (hv : v.toInt = k) : x.toInt ≠ k := fun e => h (Int32.toInt_inj.mp (e.trans hv.symm))
theorem tab_nil {x : Int32} {lo hi : Int} (hh : hi < lo) : ∀ k : Int, lo ≤ k → k ≤ hi → x.toInt ≠ k := fun k h1 h2 => by omega
theorem tab_cons {x : Int32} {lo lo' hi : Int} (h0 : x.toInt ≠ lo) (e : lo + 1 = lo') (h : ∀ k : Int, lo' ≤ k → k ≤ hi → x.toInt ≠ k) : ∀ k : Int, lo ≤ k → k ≤ hi → x.toInt ≠ k := fun k h1 h2 => by
  by_cases hk : k = lo
  · rw [hk]; exact h0
  · exact h k (by omega) h2
/-- a copy between two Object[] -/
def cpO (σ : Hp) (a0 : Nat) (sp : Int32) (a : Nat) (dp n : Int32) (K : Hp → Prop) : Prop := ∃ n0 f n1 g, σ a0 = some (rA 6 n0 f) ∧ σ a = some (rA 6 n1 g) ∧ (0 < n0 ∧ 0 < n1) ∧ ¬ sp < 0 ∧ ¬ dp < 0 ∧ ¬ n < 0 ∧ sp.toNatClampNeg + n.toNatClampNeg ≤ n0 ∧ dp.toNatClampNeg + n.toNatClampNeg ≤ n1 ∧ (∀ i : Nat, i < n.toNatClampNeg → ∀ y : Nat, f (sp.toNatClampNeg + i) = some y → ∃ t vs, σ y = some (.inl (t, vs)) ∧ (t = 0 ∨ t = 5 ∨ t = 2)) ∧ K (hset σ a (rA 6 n1 (va_cpy f g sp.toNatClampNeg dp.toNatClampNeg n.toNatClampNeg)))
/-- new int[N][M] -/
def nM_ (σ : Hp) (n k : Int32) (bc bs : Nat) (K : Nat → Nat → Nat → Hp → Prop) : Prop := ∃ N M, n = nI N ∧ k = nI M ∧ N ≤ 1000 ∧ M ≤ 1000 ∧ 1 + N ≤ bc ∧ N + N * M ≤ bs ∧ ∀ q, (∀ a, q ≤ a → σ a = none) → K N M q (fun z => if z = q then some (rA 5 N fun j => some (q + 1 + j)) else if q < z ∧ z ≤ q + N then some (iA M fun _ => 0) else σ z)
/-- a String constant's address, its bytes' address -/
def rs (G : GG) (a : Nat) : Prop := ∃ j q, a = gK G j ∧ ssz[j]? = some q
