/-! THE CLASS: a region of the heap by index; objects and arrays as cells (written by wip/whole/mkcls.py) -/
def ch (n : Nat) (P : Nat → Nat) (C : Nat → CE) (τ : Hp) : Hp := fun q => match (List.range n).find? (fun k => P k == q) with
  | some k => some (C k)
  | none => τ q
def okB (n : Nat) (P : Nat → Nat) : Prop := ∀ j k, j < n → k < n → P j = P k → j = k
def outB (n : Nat) (P : Nat → Nat) (q : Nat) : Prop := ∀ k, k < n → P k ≠ q
section CHP
variable {n : Nat} {P : Nat → Nat} {C : Nat → CE} {τ : Hp}
theorem ch_find (hB : okB n P) {k : Nat} (hk : k < n) : (List.range n).find? (fun j => P j == P k) = some k := by
  cases h : (List.range n).find? (fun j => P j == P k) with
  | none => exact absurd (List.find?_eq_none.mp h k (List.mem_range.mpr hk)) (by simp)
  | some j =>
    have h1 := List.find?_some h
    have h2 := List.mem_range.mp (List.mem_of_find?_eq_some h)
    rw [hB j k h2 hk (by simpa using h1)]
theorem ch_a (hB : okB n P) {k : Nat} (hk : k < n) : ch n P C τ (P k) = some (C k) := by
  simp only [ch, ch_find hB hk]
theorem ch_r {q : Nat} (h : outB n P q) : ch n P C τ q = τ q := by
  have h3 : (List.range n).find? (fun k => P k == q) = none := List.find?_eq_none.mpr fun k hk => by simpa using h k (List.mem_range.mp hk)
  simp only [ch, h3]
theorem ch_in {q k : Nat} (h : (List.range n).find? (fun k => P k == q) = some k) : k < n ∧ P k = q := ⟨List.mem_range.mp (List.mem_of_find?_eq_some h), by simpa using List.find?_some h⟩
theorem ch_set (hB : okB n P) {k : Nat} (hk : k < n) (c : CE) : hset (ch n P C τ) (P k) c = ch n P (up_ C k c) τ := by
  funext q
  by_cases h : q = P k
  · subst h; rw [hset_eq, ch_a hB hk, up_eq]
  · rw [hset_ne h]
    simp only [ch]
    cases h3 : (List.range n).find? (fun j => P j == q) with
    | none => rfl
    | some j =>
      have e := (ch_in h3).2
      simp only
      rw [up_ne (fun e2 => h (by rw [← e, e2]))]
theorem ch_out {q : Nat} (h : outB n P q) (c : CE) : hset (ch n P C τ) q c = ch n P C (hset τ q c) := by
  funext z
  by_cases hz : z = q
  · subst hz; rw [hset_eq, ch_r h, hset_eq]
  · rw [hset_ne hz]
    simp only [ch]
    cases h3 : (List.range n).find? (fun j => P j == z) with
    | none => simp only; rw [hset_ne hz]
    | some j => rfl
theorem ch_none {q : Nat} (h : ch n P C τ q = none) : outB n P q ∧ τ q = none := by
  have ho : outB n P q := by
    intro k hk e
    cases h3 : (List.range n).find? (fun j => P j == q) with
    | none => exact absurd (List.find?_eq_none.mp h3 k (List.mem_range.mpr hk)) (by simp [e])
    | some j => simp only [ch, h3] at h; cases h
  exact ⟨ho, by rwa [ch_r ho] at h⟩
theorem okB.snoc (hB : okB n P) {q : Nat} (h : outB n P q) : okB (n + 1) (up_ P n q) := by
  intro j k hj hk e
  unfold up_ at e
  by_cases h1 : j = n <;> by_cases h2 : k = n
  · omega
  · rw [if_pos h1, if_neg h2] at e; exact absurd e.symm (h k (by omega))
  · rw [if_neg h1, if_pos h2] at e; exact absurd e (h j (by omega))
  · rw [if_neg h1, if_neg h2] at e; exact hB j k (by omega) (by omega) e
theorem ch_self {σ : Hp} (h : ∀ k, k < n → σ (P k) = some (C k)) : ch n P C σ = σ := by
  funext q
  simp only [ch]
  cases h3 : (List.range n).find? (fun j => P j == q) with
  | none => rfl
  | some j =>
    have e := ch_in h3
    simp only
    rw [← e.2, h j e.1]
end CHP
def cI (c : CE) (t j : Nat) (K : Int32 → Prop) : Prop := ∃ fs v, c = .inl (t, fs) ∧ fs[j]? = some (aI v) ∧ K v
def cZ (c : CE) (t j : Nat) (K : Bool → Prop) : Prop := ∃ fs v, c = .inl (t, fs) ∧ fs[j]? = some (aI (bi v)) ∧ K v
def cJ (c : CE) (t j : Nat) (K : Int64 → Prop) : Prop := ∃ fs v, c = .inl (t, fs) ∧ fs[j]? = some (aJ v) ∧ K v
def cR (c : CE) (t j : Nat) (K : Option Nat → Prop) : Prop := ∃ fs v, c = .inl (t, fs) ∧ fs[j]? = some (aR v) ∧ K v
def cN (c : CE) (t j : Nat) (K : Nat → Prop) : Prop := ∃ fs v, c = .inl (t, fs) ∧ fs[j]? = some (aR (some v)) ∧ K v
def cP (c : CE) (t j : Nat) (v : AV) (K : CE → Prop) : Prop := ∃ fs, c = .inl (t, fs) ∧ K (.inl (t, fs.set j v))
def ofT (c : CE) (t : Nat) : Prop := ∃ fs, c = .inl (t, fs)
section CAT
variable {σ : Hp} {a t j : Nat} {c : CE}
theorem sm_ex {α : Type} {c : CE} {P : CE → α → Prop} {σ : Hp} {a : Nat} (h : σ a = some c) : (∃ x, ∃ c', σ a = some c' ∧ P c' x) = ∃ x, P c x := by
  apply propext
  constructor
  · rintro ⟨x, c', h1, h2⟩; rw [h] at h1; cases h1; exact ⟨x, h2⟩
  · rintro ⟨x, h2⟩; exact ⟨x, c, h, h2⟩
theorem fI_at (h : σ a = some c) {K : Int32 → Prop} : fI σ a t j K = cI c t j K := by
  unfold fI cI; rw [h]; simp only [Option.some.injEq]
theorem fZ_at (h : σ a = some c) {K : Bool → Prop} : fZ σ a t j K = cZ c t j K := by
  unfold fZ cZ; rw [h]; simp only [Option.some.injEq]
theorem fJ_at (h : σ a = some c) {K : Int64 → Prop} : fJ σ a t j K = cJ c t j K := by
  unfold fJ cJ; rw [h]; simp only [Option.some.injEq]
theorem fR_at (h : σ a = some c) {K : Option Nat → Prop} : fR σ a t j K = cR c t j K := by
  unfold fR cR; rw [h]; simp only [Option.some.injEq]
theorem fN_at (h : σ a = some c) {K : Nat → Prop} : fN σ a t j K = cN c t j K := by
  unfold fN cN; rw [h]; simp only [Option.some.injEq]
theorem pF_at (h : σ a = some c) {v : AV} {K : Hp → Prop} : pF σ a t j v K = cP c t j v (fun c' => K (hset σ a c')) := by
  unfold pF cP; rw [h]; simp only [Option.some.injEq]
theorem rv_at (h : σ a = some c) (h2 : ofT c t) : rv σ a t := by
  obtain ⟨fs, rfl⟩ := h2
  exact ⟨fs, h⟩
theorem gI_at {N : Nat} {f : Nat → Int32} (h : σ a = some (iA N f)) {i : Int32} {K : Int32 → Prop} : gI σ a i K = (vp_in i N ∧ K (f i.toNatClampNeg)) := by
  apply propext
  constructor
  · rintro ⟨N', f', h1, h2, h3⟩
    rw [h] at h1
    obtain ⟨rfl, rfl⟩ := iA_inj (Option.some.inj h1)
    exact ⟨h2, h3⟩
  · exact fun h3 => ⟨_, _, h, h3.1, h3.2⟩
theorem zA_inj {N M : Nat} {f g : Nat → Bool} (h : zA N f = zA M g) : N = M ∧ f = g := by
  simp only [zA] at h
  have h1 := Sum.inr.inj h
  simp only [Prod.mk.injEq, true_and] at h1
  refine ⟨h1.1, funext fun j => ?_⟩
  have := congrFun h1.2 j
  exact bi_inj (aI_inj this)
theorem rA_inj {t N M : Nat} {f g : Nat → Option Nat} (h : rA t N f = rA t M g) : N = M ∧ f = g := by
  simp only [rA] at h
  have h1 := Sum.inr.inj h
  simp only [Prod.mk.injEq, true_and] at h1
  refine ⟨h1.1, funext fun j => ?_⟩
  have := congrFun h1.2 j
  simpa using this
theorem gZ_at {N : Nat} {f : Nat → Bool} (h : σ a = some (zA N f)) {i : Int32} {K : Bool → Prop} : gZ σ a i K = (vp_in i N ∧ K (f i.toNatClampNeg)) := by
  apply propext
  constructor
  · rintro ⟨N', f', h1, h2, h3⟩
    rw [h] at h1
    obtain ⟨rfl, rfl⟩ := zA_inj (Option.some.inj h1)
    exact ⟨h2, h3⟩
  · exact fun h3 => ⟨_, _, h, h3.1, h3.2⟩
theorem gJ_at {N : Nat} {f : Nat → Int64} (h : σ a = some (jA N f)) {i : Int32} {K : Int64 → Prop} : gJ σ a i K = (vp_in i N ∧ K (f i.toNatClampNeg)) := by
  apply propext
  constructor
  · rintro ⟨N', f', h1, h2, h3⟩
    rw [h] at h1
    obtain ⟨rfl, rfl⟩ := jA_inj (Option.some.inj h1)
    exact ⟨h2, h3⟩
  · exact fun h3 => ⟨_, _, h, h3.1, h3.2⟩
theorem gN_at {N : Nat} {f : Nat → Option Nat} (h : σ a = some (rA t N f)) {i : Int32} {K : Nat → Prop} : gN t σ a i K = ∃ v, vp_in i N ∧ f i.toNatClampNeg = some v ∧ K v := by
  apply propext
  constructor
  · rintro ⟨N', f', v, h1, h2, h3, h4⟩
    rw [h] at h1
    obtain ⟨rfl, rfl⟩ := rA_inj (Option.some.inj h1)
    exact ⟨v, h2, h3, h4⟩
  · exact fun ⟨v, h2, h3, h4⟩ => ⟨_, _, v, h, h2, h3, h4⟩
theorem sI_at {N : Nat} {f : Nat → Int32} (h : σ a = some (iA N f)) {i x : Int32} {K : Hp → Prop} : sI σ a i x K = (vp_in i N ∧ K (hset σ a (iA N (up_ f i.toNatClampNeg x)))) := by
  apply propext
  constructor
  · rintro ⟨N', f', h1, h2, h3⟩
    rw [h] at h1
    obtain ⟨rfl, rfl⟩ := iA_inj (Option.some.inj h1)
    exact ⟨h2, h3⟩
  · exact fun h3 => ⟨_, _, h, h3.1, h3.2⟩
theorem sZ_at {N : Nat} {f : Nat → Bool} (h : σ a = some (zA N f)) {i : Int32} {x : Bool} {K : Hp → Prop} : sZ σ a i x K = (vp_in i N ∧ K (hset σ a (zA N (up_ f i.toNatClampNeg x)))) := by
  apply propext
  constructor
  · rintro ⟨N', f', h1, h2, h3⟩
    rw [h] at h1
    obtain ⟨rfl, rfl⟩ := zA_inj (Option.some.inj h1)
    exact ⟨h2, h3⟩
  · exact fun h3 => ⟨_, _, h, h3.1, h3.2⟩
theorem sJ_at {N : Nat} {f : Nat → Int64} (h : σ a = some (jA N f)) {i : Int32} {x : Int64} {K : Hp → Prop} : sJ σ a i x K = (vp_in i N ∧ K (hset σ a (jA N (up_ f i.toNatClampNeg x)))) := by
  apply propext
  constructor
  · rintro ⟨N', f', h1, h2, h3⟩
    rw [h] at h1
    obtain ⟨rfl, rfl⟩ := jA_inj (Option.some.inj h1)
    exact ⟨h2, h3⟩
  · exact fun h3 => ⟨_, _, h, h3.1, h3.2⟩
theorem sN_at {N z : Nat} {f : Nat → Option Nat} (h : σ a = some (rA t N f)) {i : Int32} {x : Nat} {K : Hp → Prop} : sN t z σ a i x K = (rv σ x z ∧ vp_in i N ∧ K (hset σ a (rA t N (up_ f i.toNatClampNeg (some x))))) := by
  apply propext
  constructor
  · rintro ⟨N', f', h1, h2, h3, h4⟩
    rw [h] at h1
    obtain ⟨rfl, rfl⟩ := rA_inj (Option.some.inj h1)
    exact ⟨h2, h3, h4⟩
  · exact fun h3 => ⟨_, _, h, h3⟩
theorem aL_at {N : Nat} {f : Nat → AV} (h : σ a = some (.inr (t, N, f))) {K : Int32 → Prop} : aL σ a K = K (nI N) := by
  apply propext
  constructor
  · rintro ⟨t', N', f', h1, h3⟩
    rw [h] at h1
    cases h1
    exact h3
  · exact fun h3 => ⟨_, _, _, h, h3⟩
theorem aL_i {N : Nat} {f : Nat → Int32} (h : σ a = some (iA N f)) {K : Int32 → Prop} : aL σ a K = K (nI N) := aL_at h
theorem aL_z {N : Nat} {f : Nat → Bool} (h : σ a = some (zA N f)) {K : Int32 → Prop} : aL σ a K = K (nI N) := aL_at h
theorem aL_j {N : Nat} {f : Nat → Int64} (h : σ a = some (jA N f)) {K : Int32 → Prop} : aL σ a K = K (nI N) := aL_at h
theorem aL_r {N : Nat} {f : Nat → Option Nat} (h : σ a = some (rA t N f)) {K : Int32 → Prop} : aL σ a K = K (nI N) := aL_at h
end CAT
/-- an object of Board -/
abbrev O0 (num : Int32) (name : Int64) (wide : Int32) (high : Int32) (fst : Int32) : CE := .inl (0, [aI num, aJ name, aI wide, aI high, aI fst])
theorem rI0_0 {num : Int32} {name : Int64} {wide : Int32} {high : Int32} {fst : Int32} {K : Int32 → Prop} : cI (O0 num name wide high fst) 0 0 K = K num := by
  apply propext
  exact ⟨fun ⟨_, v, h1, h2, h3⟩ => by cases h1; cases h2; exact h3, fun h => ⟨_, _, rfl, rfl, h⟩⟩
theorem rP0_0 {num : Int32} {name : Int64} {wide : Int32} {high : Int32} {fst : Int32} {v_ : Int32} {K : CE → Prop} : cP (O0 num name wide high fst) 0 0 (aI v_) K = K (O0 v_ name wide high fst) := by
  apply propext
  exact ⟨fun ⟨_, h1, h3⟩ => by cases h1; exact h3, fun h => ⟨_, rfl, h⟩⟩
theorem rJ0_1 {num : Int32} {name : Int64} {wide : Int32} {high : Int32} {fst : Int32} {K : Int64 → Prop} : cJ (O0 num name wide high fst) 0 1 K = K name := by
  apply propext
  exact ⟨fun ⟨_, v, h1, h2, h3⟩ => by cases h1; cases h2; exact h3, fun h => ⟨_, _, rfl, rfl, h⟩⟩
theorem rP0_1 {num : Int32} {name : Int64} {wide : Int32} {high : Int32} {fst : Int32} {v_ : Int64} {K : CE → Prop} : cP (O0 num name wide high fst) 0 1 (aJ v_) K = K (O0 num v_ wide high fst) := by
  apply propext
  exact ⟨fun ⟨_, h1, h3⟩ => by cases h1; exact h3, fun h => ⟨_, rfl, h⟩⟩
theorem rI0_2 {num : Int32} {name : Int64} {wide : Int32} {high : Int32} {fst : Int32} {K : Int32 → Prop} : cI (O0 num name wide high fst) 0 2 K = K wide := by
  apply propext
  exact ⟨fun ⟨_, v, h1, h2, h3⟩ => by cases h1; cases h2; exact h3, fun h => ⟨_, _, rfl, rfl, h⟩⟩
theorem rP0_2 {num : Int32} {name : Int64} {wide : Int32} {high : Int32} {fst : Int32} {v_ : Int32} {K : CE → Prop} : cP (O0 num name wide high fst) 0 2 (aI v_) K = K (O0 num name v_ high fst) := by
  apply propext
  exact ⟨fun ⟨_, h1, h3⟩ => by cases h1; exact h3, fun h => ⟨_, rfl, h⟩⟩
theorem rI0_3 {num : Int32} {name : Int64} {wide : Int32} {high : Int32} {fst : Int32} {K : Int32 → Prop} : cI (O0 num name wide high fst) 0 3 K = K high := by
  apply propext
  exact ⟨fun ⟨_, v, h1, h2, h3⟩ => by cases h1; cases h2; exact h3, fun h => ⟨_, _, rfl, rfl, h⟩⟩
theorem rP0_3 {num : Int32} {name : Int64} {wide : Int32} {high : Int32} {fst : Int32} {v_ : Int32} {K : CE → Prop} : cP (O0 num name wide high fst) 0 3 (aI v_) K = K (O0 num name wide v_ fst) := by
  apply propext
  exact ⟨fun ⟨_, h1, h3⟩ => by cases h1; exact h3, fun h => ⟨_, rfl, h⟩⟩
theorem rI0_4 {num : Int32} {name : Int64} {wide : Int32} {high : Int32} {fst : Int32} {K : Int32 → Prop} : cI (O0 num name wide high fst) 0 4 K = K fst := by
  apply propext
  exact ⟨fun ⟨_, v, h1, h2, h3⟩ => by cases h1; cases h2; exact h3, fun h => ⟨_, _, rfl, rfl, h⟩⟩
theorem rP0_4 {num : Int32} {name : Int64} {wide : Int32} {high : Int32} {fst : Int32} {v_ : Int32} {K : CE → Prop} : cP (O0 num name wide high fst) 0 4 (aI v_) K = K (O0 num name wide high v_) := by
  apply propext
  exact ⟨fun ⟨_, h1, h3⟩ => by cases h1; exact h3, fun h => ⟨_, rfl, h⟩⟩
/-- an object of Laid -/
abbrev O1 (lays : Option Nat) (count : Int32) (taken : Int32) (seed : Int32) : CE := .inl (1, [aR lays, aI count, aI taken, aI seed])
theorem rR1_0 {lays : Option Nat} {count : Int32} {taken : Int32} {seed : Int32} {K : Option Nat → Prop} : cR (O1 lays count taken seed) 1 0 K = K lays := by
  apply propext
  exact ⟨fun ⟨_, v, h1, h2, h3⟩ => by cases h1; cases h2; exact h3, fun h => ⟨_, _, rfl, rfl, h⟩⟩
theorem rN1_0 {lays : Nat} {count : Int32} {taken : Int32} {seed : Int32} {K : Nat → Prop} : cN (O1 (some lays) count taken seed) 1 0 K = K lays := by
  apply propext
  exact ⟨fun ⟨_, v, h1, h2, h3⟩ => by cases h1; cases h2; exact h3, fun h => ⟨_, _, rfl, rfl, h⟩⟩
theorem rP1_0 {lays : Option Nat} {count : Int32} {taken : Int32} {seed : Int32} {v_ : Option Nat} {K : CE → Prop} : cP (O1 lays count taken seed) 1 0 (aR v_) K = K (O1 v_ count taken seed) := by
  apply propext
  exact ⟨fun ⟨_, h1, h3⟩ => by cases h1; exact h3, fun h => ⟨_, rfl, h⟩⟩
theorem rI1_1 {lays : Option Nat} {count : Int32} {taken : Int32} {seed : Int32} {K : Int32 → Prop} : cI (O1 lays count taken seed) 1 1 K = K count := by
  apply propext
  exact ⟨fun ⟨_, v, h1, h2, h3⟩ => by cases h1; cases h2; exact h3, fun h => ⟨_, _, rfl, rfl, h⟩⟩
theorem rP1_1 {lays : Option Nat} {count : Int32} {taken : Int32} {seed : Int32} {v_ : Int32} {K : CE → Prop} : cP (O1 lays count taken seed) 1 1 (aI v_) K = K (O1 lays v_ taken seed) := by
  apply propext
  exact ⟨fun ⟨_, h1, h3⟩ => by cases h1; exact h3, fun h => ⟨_, rfl, h⟩⟩
theorem rI1_2 {lays : Option Nat} {count : Int32} {taken : Int32} {seed : Int32} {K : Int32 → Prop} : cI (O1 lays count taken seed) 1 2 K = K taken := by
  apply propext
  exact ⟨fun ⟨_, v, h1, h2, h3⟩ => by cases h1; cases h2; exact h3, fun h => ⟨_, _, rfl, rfl, h⟩⟩
theorem rP1_2 {lays : Option Nat} {count : Int32} {taken : Int32} {seed : Int32} {v_ : Int32} {K : CE → Prop} : cP (O1 lays count taken seed) 1 2 (aI v_) K = K (O1 lays count v_ seed) := by
  apply propext
  exact ⟨fun ⟨_, h1, h3⟩ => by cases h1; exact h3, fun h => ⟨_, rfl, h⟩⟩
theorem rI1_3 {lays : Option Nat} {count : Int32} {taken : Int32} {seed : Int32} {K : Int32 → Prop} : cI (O1 lays count taken seed) 1 3 K = K seed := by
  apply propext
  exact ⟨fun ⟨_, v, h1, h2, h3⟩ => by cases h1; cases h2; exact h3, fun h => ⟨_, _, rfl, rfl, h⟩⟩
theorem rP1_3 {lays : Option Nat} {count : Int32} {taken : Int32} {seed : Int32} {v_ : Int32} {K : CE → Prop} : cP (O1 lays count taken seed) 1 3 (aI v_) K = K (O1 lays count taken v_) := by
  apply propext
  exact ⟨fun ⟨_, h1, h3⟩ => by cases h1; exact h3, fun h => ⟨_, rfl, h⟩⟩
/-- an object of Lay -/
abbrev O2 (num : Int32) (piece : Option Nat) (board : Option Nat) (x : Int32) (y : Int32) (turns : Int32) (sq : Int32) (guard : Int32) (turned : Option Nat) : CE := .inl (2, [aI num, aR piece, aR board, aI x, aI y, aI turns, aI sq, aI guard, aR turned])
theorem rI2_0 {num : Int32} {piece : Option Nat} {board : Option Nat} {x : Int32} {y : Int32} {turns : Int32} {sq : Int32} {guard : Int32} {turned : Option Nat} {K : Int32 → Prop} : cI (O2 num piece board x y turns sq guard turned) 2 0 K = K num := by
  apply propext
  exact ⟨fun ⟨_, v, h1, h2, h3⟩ => by cases h1; cases h2; exact h3, fun h => ⟨_, _, rfl, rfl, h⟩⟩
theorem rP2_0 {num : Int32} {piece : Option Nat} {board : Option Nat} {x : Int32} {y : Int32} {turns : Int32} {sq : Int32} {guard : Int32} {turned : Option Nat} {v_ : Int32} {K : CE → Prop} : cP (O2 num piece board x y turns sq guard turned) 2 0 (aI v_) K = K (O2 v_ piece board x y turns sq guard turned) := by
  apply propext
  exact ⟨fun ⟨_, h1, h3⟩ => by cases h1; exact h3, fun h => ⟨_, rfl, h⟩⟩
theorem rR2_1 {num : Int32} {piece : Option Nat} {board : Option Nat} {x : Int32} {y : Int32} {turns : Int32} {sq : Int32} {guard : Int32} {turned : Option Nat} {K : Option Nat → Prop} : cR (O2 num piece board x y turns sq guard turned) 2 1 K = K piece := by
  apply propext
  exact ⟨fun ⟨_, v, h1, h2, h3⟩ => by cases h1; cases h2; exact h3, fun h => ⟨_, _, rfl, rfl, h⟩⟩
theorem rN2_1 {num : Int32} {piece : Nat} {board : Option Nat} {x : Int32} {y : Int32} {turns : Int32} {sq : Int32} {guard : Int32} {turned : Option Nat} {K : Nat → Prop} : cN (O2 num (some piece) board x y turns sq guard turned) 2 1 K = K piece := by
  apply propext
  exact ⟨fun ⟨_, v, h1, h2, h3⟩ => by cases h1; cases h2; exact h3, fun h => ⟨_, _, rfl, rfl, h⟩⟩
theorem rP2_1 {num : Int32} {piece : Option Nat} {board : Option Nat} {x : Int32} {y : Int32} {turns : Int32} {sq : Int32} {guard : Int32} {turned : Option Nat} {v_ : Option Nat} {K : CE → Prop} : cP (O2 num piece board x y turns sq guard turned) 2 1 (aR v_) K = K (O2 num v_ board x y turns sq guard turned) := by
  apply propext
  exact ⟨fun ⟨_, h1, h3⟩ => by cases h1; exact h3, fun h => ⟨_, rfl, h⟩⟩
theorem rR2_2 {num : Int32} {piece : Option Nat} {board : Option Nat} {x : Int32} {y : Int32} {turns : Int32} {sq : Int32} {guard : Int32} {turned : Option Nat} {K : Option Nat → Prop} : cR (O2 num piece board x y turns sq guard turned) 2 2 K = K board := by
  apply propext
  exact ⟨fun ⟨_, v, h1, h2, h3⟩ => by cases h1; cases h2; exact h3, fun h => ⟨_, _, rfl, rfl, h⟩⟩
theorem rN2_2 {num : Int32} {piece : Option Nat} {board : Nat} {x : Int32} {y : Int32} {turns : Int32} {sq : Int32} {guard : Int32} {turned : Option Nat} {K : Nat → Prop} : cN (O2 num piece (some board) x y turns sq guard turned) 2 2 K = K board := by
  apply propext
  exact ⟨fun ⟨_, v, h1, h2, h3⟩ => by cases h1; cases h2; exact h3, fun h => ⟨_, _, rfl, rfl, h⟩⟩
theorem rP2_2 {num : Int32} {piece : Option Nat} {board : Option Nat} {x : Int32} {y : Int32} {turns : Int32} {sq : Int32} {guard : Int32} {turned : Option Nat} {v_ : Option Nat} {K : CE → Prop} : cP (O2 num piece board x y turns sq guard turned) 2 2 (aR v_) K = K (O2 num piece v_ x y turns sq guard turned) := by
  apply propext
  exact ⟨fun ⟨_, h1, h3⟩ => by cases h1; exact h3, fun h => ⟨_, rfl, h⟩⟩
theorem rI2_3 {num : Int32} {piece : Option Nat} {board : Option Nat} {x : Int32} {y : Int32} {turns : Int32} {sq : Int32} {guard : Int32} {turned : Option Nat} {K : Int32 → Prop} : cI (O2 num piece board x y turns sq guard turned) 2 3 K = K x := by
  apply propext
  exact ⟨fun ⟨_, v, h1, h2, h3⟩ => by cases h1; cases h2; exact h3, fun h => ⟨_, _, rfl, rfl, h⟩⟩
theorem rP2_3 {num : Int32} {piece : Option Nat} {board : Option Nat} {x : Int32} {y : Int32} {turns : Int32} {sq : Int32} {guard : Int32} {turned : Option Nat} {v_ : Int32} {K : CE → Prop} : cP (O2 num piece board x y turns sq guard turned) 2 3 (aI v_) K = K (O2 num piece board v_ y turns sq guard turned) := by
  apply propext
  exact ⟨fun ⟨_, h1, h3⟩ => by cases h1; exact h3, fun h => ⟨_, rfl, h⟩⟩
theorem rI2_4 {num : Int32} {piece : Option Nat} {board : Option Nat} {x : Int32} {y : Int32} {turns : Int32} {sq : Int32} {guard : Int32} {turned : Option Nat} {K : Int32 → Prop} : cI (O2 num piece board x y turns sq guard turned) 2 4 K = K y := by
  apply propext
  exact ⟨fun ⟨_, v, h1, h2, h3⟩ => by cases h1; cases h2; exact h3, fun h => ⟨_, _, rfl, rfl, h⟩⟩
theorem rP2_4 {num : Int32} {piece : Option Nat} {board : Option Nat} {x : Int32} {y : Int32} {turns : Int32} {sq : Int32} {guard : Int32} {turned : Option Nat} {v_ : Int32} {K : CE → Prop} : cP (O2 num piece board x y turns sq guard turned) 2 4 (aI v_) K = K (O2 num piece board x v_ turns sq guard turned) := by
  apply propext
  exact ⟨fun ⟨_, h1, h3⟩ => by cases h1; exact h3, fun h => ⟨_, rfl, h⟩⟩
theorem rI2_5 {num : Int32} {piece : Option Nat} {board : Option Nat} {x : Int32} {y : Int32} {turns : Int32} {sq : Int32} {guard : Int32} {turned : Option Nat} {K : Int32 → Prop} : cI (O2 num piece board x y turns sq guard turned) 2 5 K = K turns := by
  apply propext
  exact ⟨fun ⟨_, v, h1, h2, h3⟩ => by cases h1; cases h2; exact h3, fun h => ⟨_, _, rfl, rfl, h⟩⟩
theorem rP2_5 {num : Int32} {piece : Option Nat} {board : Option Nat} {x : Int32} {y : Int32} {turns : Int32} {sq : Int32} {guard : Int32} {turned : Option Nat} {v_ : Int32} {K : CE → Prop} : cP (O2 num piece board x y turns sq guard turned) 2 5 (aI v_) K = K (O2 num piece board x y v_ sq guard turned) := by
  apply propext
  exact ⟨fun ⟨_, h1, h3⟩ => by cases h1; exact h3, fun h => ⟨_, rfl, h⟩⟩
theorem rI2_6 {num : Int32} {piece : Option Nat} {board : Option Nat} {x : Int32} {y : Int32} {turns : Int32} {sq : Int32} {guard : Int32} {turned : Option Nat} {K : Int32 → Prop} : cI (O2 num piece board x y turns sq guard turned) 2 6 K = K sq := by
  apply propext
  exact ⟨fun ⟨_, v, h1, h2, h3⟩ => by cases h1; cases h2; exact h3, fun h => ⟨_, _, rfl, rfl, h⟩⟩
theorem rP2_6 {num : Int32} {piece : Option Nat} {board : Option Nat} {x : Int32} {y : Int32} {turns : Int32} {sq : Int32} {guard : Int32} {turned : Option Nat} {v_ : Int32} {K : CE → Prop} : cP (O2 num piece board x y turns sq guard turned) 2 6 (aI v_) K = K (O2 num piece board x y turns v_ guard turned) := by
  apply propext
  exact ⟨fun ⟨_, h1, h3⟩ => by cases h1; exact h3, fun h => ⟨_, rfl, h⟩⟩
theorem rI2_7 {num : Int32} {piece : Option Nat} {board : Option Nat} {x : Int32} {y : Int32} {turns : Int32} {sq : Int32} {guard : Int32} {turned : Option Nat} {K : Int32 → Prop} : cI (O2 num piece board x y turns sq guard turned) 2 7 K = K guard := by
  apply propext
  exact ⟨fun ⟨_, v, h1, h2, h3⟩ => by cases h1; cases h2; exact h3, fun h => ⟨_, _, rfl, rfl, h⟩⟩
theorem rP2_7 {num : Int32} {piece : Option Nat} {board : Option Nat} {x : Int32} {y : Int32} {turns : Int32} {sq : Int32} {guard : Int32} {turned : Option Nat} {v_ : Int32} {K : CE → Prop} : cP (O2 num piece board x y turns sq guard turned) 2 7 (aI v_) K = K (O2 num piece board x y turns sq v_ turned) := by
  apply propext
  exact ⟨fun ⟨_, h1, h3⟩ => by cases h1; exact h3, fun h => ⟨_, rfl, h⟩⟩
theorem rR2_8 {num : Int32} {piece : Option Nat} {board : Option Nat} {x : Int32} {y : Int32} {turns : Int32} {sq : Int32} {guard : Int32} {turned : Option Nat} {K : Option Nat → Prop} : cR (O2 num piece board x y turns sq guard turned) 2 8 K = K turned := by
  apply propext
  exact ⟨fun ⟨_, v, h1, h2, h3⟩ => by cases h1; cases h2; exact h3, fun h => ⟨_, _, rfl, rfl, h⟩⟩
theorem rN2_8 {num : Int32} {piece : Option Nat} {board : Option Nat} {x : Int32} {y : Int32} {turns : Int32} {sq : Int32} {guard : Int32} {turned : Nat} {K : Nat → Prop} : cN (O2 num piece board x y turns sq guard (some turned)) 2 8 K = K turned := by
  apply propext
  exact ⟨fun ⟨_, v, h1, h2, h3⟩ => by cases h1; cases h2; exact h3, fun h => ⟨_, _, rfl, rfl, h⟩⟩
theorem rP2_8 {num : Int32} {piece : Option Nat} {board : Option Nat} {x : Int32} {y : Int32} {turns : Int32} {sq : Int32} {guard : Int32} {turned : Option Nat} {v_ : Option Nat} {K : CE → Prop} : cP (O2 num piece board x y turns sq guard turned) 2 8 (aR v_) K = K (O2 num piece board x y turns sq guard v_) := by
  apply propext
  exact ⟨fun ⟨_, h1, h3⟩ => by cases h1; exact h3, fun h => ⟨_, rfl, h⟩⟩
/-- an object of Outlook -/
abbrev O3 (table : Option Nat) (stamp : Int32) (known : Option Nat) (won : Option Nat) (soon : Option Nat) (few : Option Nat) (most : Option Nat) (lot : Option Nat) (ways : Option Nat) (gk : Option Nat) (gr : Option Nat) : CE := .inl (3, [aR table, aI stamp, aR known, aR won, aR soon, aR few, aR most, aR lot, aR ways, aR gk, aR gr])
theorem rR3_0 {table : Option Nat} {stamp : Int32} {known : Option Nat} {won : Option Nat} {soon : Option Nat} {few : Option Nat} {most : Option Nat} {lot : Option Nat} {ways : Option Nat} {gk : Option Nat} {gr : Option Nat} {K : Option Nat → Prop} : cR (O3 table stamp known won soon few most lot ways gk gr) 3 0 K = K table := by
  apply propext
  exact ⟨fun ⟨_, v, h1, h2, h3⟩ => by cases h1; cases h2; exact h3, fun h => ⟨_, _, rfl, rfl, h⟩⟩
theorem rN3_0 {table : Nat} {stamp : Int32} {known : Option Nat} {won : Option Nat} {soon : Option Nat} {few : Option Nat} {most : Option Nat} {lot : Option Nat} {ways : Option Nat} {gk : Option Nat} {gr : Option Nat} {K : Nat → Prop} : cN (O3 (some table) stamp known won soon few most lot ways gk gr) 3 0 K = K table := by
  apply propext
  exact ⟨fun ⟨_, v, h1, h2, h3⟩ => by cases h1; cases h2; exact h3, fun h => ⟨_, _, rfl, rfl, h⟩⟩
theorem rP3_0 {table : Option Nat} {stamp : Int32} {known : Option Nat} {won : Option Nat} {soon : Option Nat} {few : Option Nat} {most : Option Nat} {lot : Option Nat} {ways : Option Nat} {gk : Option Nat} {gr : Option Nat} {v_ : Option Nat} {K : CE → Prop} : cP (O3 table stamp known won soon few most lot ways gk gr) 3 0 (aR v_) K = K (O3 v_ stamp known won soon few most lot ways gk gr) := by
  apply propext
  exact ⟨fun ⟨_, h1, h3⟩ => by cases h1; exact h3, fun h => ⟨_, rfl, h⟩⟩
theorem rI3_1 {table : Option Nat} {stamp : Int32} {known : Option Nat} {won : Option Nat} {soon : Option Nat} {few : Option Nat} {most : Option Nat} {lot : Option Nat} {ways : Option Nat} {gk : Option Nat} {gr : Option Nat} {K : Int32 → Prop} : cI (O3 table stamp known won soon few most lot ways gk gr) 3 1 K = K stamp := by
  apply propext
  exact ⟨fun ⟨_, v, h1, h2, h3⟩ => by cases h1; cases h2; exact h3, fun h => ⟨_, _, rfl, rfl, h⟩⟩
theorem rP3_1 {table : Option Nat} {stamp : Int32} {known : Option Nat} {won : Option Nat} {soon : Option Nat} {few : Option Nat} {most : Option Nat} {lot : Option Nat} {ways : Option Nat} {gk : Option Nat} {gr : Option Nat} {v_ : Int32} {K : CE → Prop} : cP (O3 table stamp known won soon few most lot ways gk gr) 3 1 (aI v_) K = K (O3 table v_ known won soon few most lot ways gk gr) := by
  apply propext
  exact ⟨fun ⟨_, h1, h3⟩ => by cases h1; exact h3, fun h => ⟨_, rfl, h⟩⟩
theorem rR3_2 {table : Option Nat} {stamp : Int32} {known : Option Nat} {won : Option Nat} {soon : Option Nat} {few : Option Nat} {most : Option Nat} {lot : Option Nat} {ways : Option Nat} {gk : Option Nat} {gr : Option Nat} {K : Option Nat → Prop} : cR (O3 table stamp known won soon few most lot ways gk gr) 3 2 K = K known := by
  apply propext
  exact ⟨fun ⟨_, v, h1, h2, h3⟩ => by cases h1; cases h2; exact h3, fun h => ⟨_, _, rfl, rfl, h⟩⟩
theorem rN3_2 {table : Option Nat} {stamp : Int32} {known : Nat} {won : Option Nat} {soon : Option Nat} {few : Option Nat} {most : Option Nat} {lot : Option Nat} {ways : Option Nat} {gk : Option Nat} {gr : Option Nat} {K : Nat → Prop} : cN (O3 table stamp (some known) won soon few most lot ways gk gr) 3 2 K = K known := by
  apply propext
  exact ⟨fun ⟨_, v, h1, h2, h3⟩ => by cases h1; cases h2; exact h3, fun h => ⟨_, _, rfl, rfl, h⟩⟩
theorem rP3_2 {table : Option Nat} {stamp : Int32} {known : Option Nat} {won : Option Nat} {soon : Option Nat} {few : Option Nat} {most : Option Nat} {lot : Option Nat} {ways : Option Nat} {gk : Option Nat} {gr : Option Nat} {v_ : Option Nat} {K : CE → Prop} : cP (O3 table stamp known won soon few most lot ways gk gr) 3 2 (aR v_) K = K (O3 table stamp v_ won soon few most lot ways gk gr) := by
  apply propext
  exact ⟨fun ⟨_, h1, h3⟩ => by cases h1; exact h3, fun h => ⟨_, rfl, h⟩⟩
theorem rR3_3 {table : Option Nat} {stamp : Int32} {known : Option Nat} {won : Option Nat} {soon : Option Nat} {few : Option Nat} {most : Option Nat} {lot : Option Nat} {ways : Option Nat} {gk : Option Nat} {gr : Option Nat} {K : Option Nat → Prop} : cR (O3 table stamp known won soon few most lot ways gk gr) 3 3 K = K won := by
  apply propext
  exact ⟨fun ⟨_, v, h1, h2, h3⟩ => by cases h1; cases h2; exact h3, fun h => ⟨_, _, rfl, rfl, h⟩⟩
theorem rN3_3 {table : Option Nat} {stamp : Int32} {known : Option Nat} {won : Nat} {soon : Option Nat} {few : Option Nat} {most : Option Nat} {lot : Option Nat} {ways : Option Nat} {gk : Option Nat} {gr : Option Nat} {K : Nat → Prop} : cN (O3 table stamp known (some won) soon few most lot ways gk gr) 3 3 K = K won := by
  apply propext
  exact ⟨fun ⟨_, v, h1, h2, h3⟩ => by cases h1; cases h2; exact h3, fun h => ⟨_, _, rfl, rfl, h⟩⟩
theorem rP3_3 {table : Option Nat} {stamp : Int32} {known : Option Nat} {won : Option Nat} {soon : Option Nat} {few : Option Nat} {most : Option Nat} {lot : Option Nat} {ways : Option Nat} {gk : Option Nat} {gr : Option Nat} {v_ : Option Nat} {K : CE → Prop} : cP (O3 table stamp known won soon few most lot ways gk gr) 3 3 (aR v_) K = K (O3 table stamp known v_ soon few most lot ways gk gr) := by
  apply propext
  exact ⟨fun ⟨_, h1, h3⟩ => by cases h1; exact h3, fun h => ⟨_, rfl, h⟩⟩
theorem rR3_4 {table : Option Nat} {stamp : Int32} {known : Option Nat} {won : Option Nat} {soon : Option Nat} {few : Option Nat} {most : Option Nat} {lot : Option Nat} {ways : Option Nat} {gk : Option Nat} {gr : Option Nat} {K : Option Nat → Prop} : cR (O3 table stamp known won soon few most lot ways gk gr) 3 4 K = K soon := by
  apply propext
  exact ⟨fun ⟨_, v, h1, h2, h3⟩ => by cases h1; cases h2; exact h3, fun h => ⟨_, _, rfl, rfl, h⟩⟩
theorem rN3_4 {table : Option Nat} {stamp : Int32} {known : Option Nat} {won : Option Nat} {soon : Nat} {few : Option Nat} {most : Option Nat} {lot : Option Nat} {ways : Option Nat} {gk : Option Nat} {gr : Option Nat} {K : Nat → Prop} : cN (O3 table stamp known won (some soon) few most lot ways gk gr) 3 4 K = K soon := by
  apply propext
  exact ⟨fun ⟨_, v, h1, h2, h3⟩ => by cases h1; cases h2; exact h3, fun h => ⟨_, _, rfl, rfl, h⟩⟩
theorem rP3_4 {table : Option Nat} {stamp : Int32} {known : Option Nat} {won : Option Nat} {soon : Option Nat} {few : Option Nat} {most : Option Nat} {lot : Option Nat} {ways : Option Nat} {gk : Option Nat} {gr : Option Nat} {v_ : Option Nat} {K : CE → Prop} : cP (O3 table stamp known won soon few most lot ways gk gr) 3 4 (aR v_) K = K (O3 table stamp known won v_ few most lot ways gk gr) := by
  apply propext
  exact ⟨fun ⟨_, h1, h3⟩ => by cases h1; exact h3, fun h => ⟨_, rfl, h⟩⟩
theorem rR3_5 {table : Option Nat} {stamp : Int32} {known : Option Nat} {won : Option Nat} {soon : Option Nat} {few : Option Nat} {most : Option Nat} {lot : Option Nat} {ways : Option Nat} {gk : Option Nat} {gr : Option Nat} {K : Option Nat → Prop} : cR (O3 table stamp known won soon few most lot ways gk gr) 3 5 K = K few := by
  apply propext
  exact ⟨fun ⟨_, v, h1, h2, h3⟩ => by cases h1; cases h2; exact h3, fun h => ⟨_, _, rfl, rfl, h⟩⟩
theorem rN3_5 {table : Option Nat} {stamp : Int32} {known : Option Nat} {won : Option Nat} {soon : Option Nat} {few : Nat} {most : Option Nat} {lot : Option Nat} {ways : Option Nat} {gk : Option Nat} {gr : Option Nat} {K : Nat → Prop} : cN (O3 table stamp known won soon (some few) most lot ways gk gr) 3 5 K = K few := by
  apply propext
  exact ⟨fun ⟨_, v, h1, h2, h3⟩ => by cases h1; cases h2; exact h3, fun h => ⟨_, _, rfl, rfl, h⟩⟩
theorem rP3_5 {table : Option Nat} {stamp : Int32} {known : Option Nat} {won : Option Nat} {soon : Option Nat} {few : Option Nat} {most : Option Nat} {lot : Option Nat} {ways : Option Nat} {gk : Option Nat} {gr : Option Nat} {v_ : Option Nat} {K : CE → Prop} : cP (O3 table stamp known won soon few most lot ways gk gr) 3 5 (aR v_) K = K (O3 table stamp known won soon v_ most lot ways gk gr) := by
  apply propext
  exact ⟨fun ⟨_, h1, h3⟩ => by cases h1; exact h3, fun h => ⟨_, rfl, h⟩⟩
theorem rR3_6 {table : Option Nat} {stamp : Int32} {known : Option Nat} {won : Option Nat} {soon : Option Nat} {few : Option Nat} {most : Option Nat} {lot : Option Nat} {ways : Option Nat} {gk : Option Nat} {gr : Option Nat} {K : Option Nat → Prop} : cR (O3 table stamp known won soon few most lot ways gk gr) 3 6 K = K most := by
  apply propext
  exact ⟨fun ⟨_, v, h1, h2, h3⟩ => by cases h1; cases h2; exact h3, fun h => ⟨_, _, rfl, rfl, h⟩⟩
theorem rN3_6 {table : Option Nat} {stamp : Int32} {known : Option Nat} {won : Option Nat} {soon : Option Nat} {few : Option Nat} {most : Nat} {lot : Option Nat} {ways : Option Nat} {gk : Option Nat} {gr : Option Nat} {K : Nat → Prop} : cN (O3 table stamp known won soon few (some most) lot ways gk gr) 3 6 K = K most := by
  apply propext
  exact ⟨fun ⟨_, v, h1, h2, h3⟩ => by cases h1; cases h2; exact h3, fun h => ⟨_, _, rfl, rfl, h⟩⟩
theorem rP3_6 {table : Option Nat} {stamp : Int32} {known : Option Nat} {won : Option Nat} {soon : Option Nat} {few : Option Nat} {most : Option Nat} {lot : Option Nat} {ways : Option Nat} {gk : Option Nat} {gr : Option Nat} {v_ : Option Nat} {K : CE → Prop} : cP (O3 table stamp known won soon few most lot ways gk gr) 3 6 (aR v_) K = K (O3 table stamp known won soon few v_ lot ways gk gr) := by
  apply propext
  exact ⟨fun ⟨_, h1, h3⟩ => by cases h1; exact h3, fun h => ⟨_, rfl, h⟩⟩
theorem rR3_7 {table : Option Nat} {stamp : Int32} {known : Option Nat} {won : Option Nat} {soon : Option Nat} {few : Option Nat} {most : Option Nat} {lot : Option Nat} {ways : Option Nat} {gk : Option Nat} {gr : Option Nat} {K : Option Nat → Prop} : cR (O3 table stamp known won soon few most lot ways gk gr) 3 7 K = K lot := by
  apply propext
  exact ⟨fun ⟨_, v, h1, h2, h3⟩ => by cases h1; cases h2; exact h3, fun h => ⟨_, _, rfl, rfl, h⟩⟩
theorem rN3_7 {table : Option Nat} {stamp : Int32} {known : Option Nat} {won : Option Nat} {soon : Option Nat} {few : Option Nat} {most : Option Nat} {lot : Nat} {ways : Option Nat} {gk : Option Nat} {gr : Option Nat} {K : Nat → Prop} : cN (O3 table stamp known won soon few most (some lot) ways gk gr) 3 7 K = K lot := by
  apply propext
  exact ⟨fun ⟨_, v, h1, h2, h3⟩ => by cases h1; cases h2; exact h3, fun h => ⟨_, _, rfl, rfl, h⟩⟩
theorem rP3_7 {table : Option Nat} {stamp : Int32} {known : Option Nat} {won : Option Nat} {soon : Option Nat} {few : Option Nat} {most : Option Nat} {lot : Option Nat} {ways : Option Nat} {gk : Option Nat} {gr : Option Nat} {v_ : Option Nat} {K : CE → Prop} : cP (O3 table stamp known won soon few most lot ways gk gr) 3 7 (aR v_) K = K (O3 table stamp known won soon few most v_ ways gk gr) := by
  apply propext
  exact ⟨fun ⟨_, h1, h3⟩ => by cases h1; exact h3, fun h => ⟨_, rfl, h⟩⟩
theorem rR3_8 {table : Option Nat} {stamp : Int32} {known : Option Nat} {won : Option Nat} {soon : Option Nat} {few : Option Nat} {most : Option Nat} {lot : Option Nat} {ways : Option Nat} {gk : Option Nat} {gr : Option Nat} {K : Option Nat → Prop} : cR (O3 table stamp known won soon few most lot ways gk gr) 3 8 K = K ways := by
  apply propext
  exact ⟨fun ⟨_, v, h1, h2, h3⟩ => by cases h1; cases h2; exact h3, fun h => ⟨_, _, rfl, rfl, h⟩⟩
theorem rN3_8 {table : Option Nat} {stamp : Int32} {known : Option Nat} {won : Option Nat} {soon : Option Nat} {few : Option Nat} {most : Option Nat} {lot : Option Nat} {ways : Nat} {gk : Option Nat} {gr : Option Nat} {K : Nat → Prop} : cN (O3 table stamp known won soon few most lot (some ways) gk gr) 3 8 K = K ways := by
  apply propext
  exact ⟨fun ⟨_, v, h1, h2, h3⟩ => by cases h1; cases h2; exact h3, fun h => ⟨_, _, rfl, rfl, h⟩⟩
theorem rP3_8 {table : Option Nat} {stamp : Int32} {known : Option Nat} {won : Option Nat} {soon : Option Nat} {few : Option Nat} {most : Option Nat} {lot : Option Nat} {ways : Option Nat} {gk : Option Nat} {gr : Option Nat} {v_ : Option Nat} {K : CE → Prop} : cP (O3 table stamp known won soon few most lot ways gk gr) 3 8 (aR v_) K = K (O3 table stamp known won soon few most lot v_ gk gr) := by
  apply propext
  exact ⟨fun ⟨_, h1, h3⟩ => by cases h1; exact h3, fun h => ⟨_, rfl, h⟩⟩
theorem rR3_9 {table : Option Nat} {stamp : Int32} {known : Option Nat} {won : Option Nat} {soon : Option Nat} {few : Option Nat} {most : Option Nat} {lot : Option Nat} {ways : Option Nat} {gk : Option Nat} {gr : Option Nat} {K : Option Nat → Prop} : cR (O3 table stamp known won soon few most lot ways gk gr) 3 9 K = K gk := by
  apply propext
  exact ⟨fun ⟨_, v, h1, h2, h3⟩ => by cases h1; cases h2; exact h3, fun h => ⟨_, _, rfl, rfl, h⟩⟩
theorem rN3_9 {table : Option Nat} {stamp : Int32} {known : Option Nat} {won : Option Nat} {soon : Option Nat} {few : Option Nat} {most : Option Nat} {lot : Option Nat} {ways : Option Nat} {gk : Nat} {gr : Option Nat} {K : Nat → Prop} : cN (O3 table stamp known won soon few most lot ways (some gk) gr) 3 9 K = K gk := by
  apply propext
  exact ⟨fun ⟨_, v, h1, h2, h3⟩ => by cases h1; cases h2; exact h3, fun h => ⟨_, _, rfl, rfl, h⟩⟩
theorem rP3_9 {table : Option Nat} {stamp : Int32} {known : Option Nat} {won : Option Nat} {soon : Option Nat} {few : Option Nat} {most : Option Nat} {lot : Option Nat} {ways : Option Nat} {gk : Option Nat} {gr : Option Nat} {v_ : Option Nat} {K : CE → Prop} : cP (O3 table stamp known won soon few most lot ways gk gr) 3 9 (aR v_) K = K (O3 table stamp known won soon few most lot ways v_ gr) := by
  apply propext
  exact ⟨fun ⟨_, h1, h3⟩ => by cases h1; exact h3, fun h => ⟨_, rfl, h⟩⟩
theorem rR3_10 {table : Option Nat} {stamp : Int32} {known : Option Nat} {won : Option Nat} {soon : Option Nat} {few : Option Nat} {most : Option Nat} {lot : Option Nat} {ways : Option Nat} {gk : Option Nat} {gr : Option Nat} {K : Option Nat → Prop} : cR (O3 table stamp known won soon few most lot ways gk gr) 3 10 K = K gr := by
  apply propext
  exact ⟨fun ⟨_, v, h1, h2, h3⟩ => by cases h1; cases h2; exact h3, fun h => ⟨_, _, rfl, rfl, h⟩⟩
theorem rN3_10 {table : Option Nat} {stamp : Int32} {known : Option Nat} {won : Option Nat} {soon : Option Nat} {few : Option Nat} {most : Option Nat} {lot : Option Nat} {ways : Option Nat} {gk : Option Nat} {gr : Nat} {K : Nat → Prop} : cN (O3 table stamp known won soon few most lot ways gk (some gr)) 3 10 K = K gr := by
  apply propext
  exact ⟨fun ⟨_, v, h1, h2, h3⟩ => by cases h1; cases h2; exact h3, fun h => ⟨_, _, rfl, rfl, h⟩⟩
theorem rP3_10 {table : Option Nat} {stamp : Int32} {known : Option Nat} {won : Option Nat} {soon : Option Nat} {few : Option Nat} {most : Option Nat} {lot : Option Nat} {ways : Option Nat} {gk : Option Nat} {gr : Option Nat} {v_ : Option Nat} {K : CE → Prop} : cP (O3 table stamp known won soon few most lot ways gk gr) 3 10 (aR v_) K = K (O3 table stamp known won soon few most lot ways gk v_) := by
  apply propext
  exact ⟨fun ⟨_, h1, h3⟩ => by cases h1; exact h3, fun h => ⟨_, rfl, h⟩⟩
/-- an object of Past -/
abbrev O4 (ring : Option Nat) (top : Int32) (kept : Int32) (pics : Option Nat) (images : Int32) : CE := .inl (4, [aR ring, aI top, aI kept, aR pics, aI images])
theorem rR4_0 {ring : Option Nat} {top : Int32} {kept : Int32} {pics : Option Nat} {images : Int32} {K : Option Nat → Prop} : cR (O4 ring top kept pics images) 4 0 K = K ring := by
  apply propext
  exact ⟨fun ⟨_, v, h1, h2, h3⟩ => by cases h1; cases h2; exact h3, fun h => ⟨_, _, rfl, rfl, h⟩⟩
theorem rN4_0 {ring : Nat} {top : Int32} {kept : Int32} {pics : Option Nat} {images : Int32} {K : Nat → Prop} : cN (O4 (some ring) top kept pics images) 4 0 K = K ring := by
  apply propext
  exact ⟨fun ⟨_, v, h1, h2, h3⟩ => by cases h1; cases h2; exact h3, fun h => ⟨_, _, rfl, rfl, h⟩⟩
theorem rP4_0 {ring : Option Nat} {top : Int32} {kept : Int32} {pics : Option Nat} {images : Int32} {v_ : Option Nat} {K : CE → Prop} : cP (O4 ring top kept pics images) 4 0 (aR v_) K = K (O4 v_ top kept pics images) := by
  apply propext
  exact ⟨fun ⟨_, h1, h3⟩ => by cases h1; exact h3, fun h => ⟨_, rfl, h⟩⟩
theorem rI4_1 {ring : Option Nat} {top : Int32} {kept : Int32} {pics : Option Nat} {images : Int32} {K : Int32 → Prop} : cI (O4 ring top kept pics images) 4 1 K = K top := by
  apply propext
  exact ⟨fun ⟨_, v, h1, h2, h3⟩ => by cases h1; cases h2; exact h3, fun h => ⟨_, _, rfl, rfl, h⟩⟩
theorem rP4_1 {ring : Option Nat} {top : Int32} {kept : Int32} {pics : Option Nat} {images : Int32} {v_ : Int32} {K : CE → Prop} : cP (O4 ring top kept pics images) 4 1 (aI v_) K = K (O4 ring v_ kept pics images) := by
  apply propext
  exact ⟨fun ⟨_, h1, h3⟩ => by cases h1; exact h3, fun h => ⟨_, rfl, h⟩⟩
theorem rI4_2 {ring : Option Nat} {top : Int32} {kept : Int32} {pics : Option Nat} {images : Int32} {K : Int32 → Prop} : cI (O4 ring top kept pics images) 4 2 K = K kept := by
  apply propext
  exact ⟨fun ⟨_, v, h1, h2, h3⟩ => by cases h1; cases h2; exact h3, fun h => ⟨_, _, rfl, rfl, h⟩⟩
theorem rP4_2 {ring : Option Nat} {top : Int32} {kept : Int32} {pics : Option Nat} {images : Int32} {v_ : Int32} {K : CE → Prop} : cP (O4 ring top kept pics images) 4 2 (aI v_) K = K (O4 ring top v_ pics images) := by
  apply propext
  exact ⟨fun ⟨_, h1, h3⟩ => by cases h1; exact h3, fun h => ⟨_, rfl, h⟩⟩
theorem rR4_3 {ring : Option Nat} {top : Int32} {kept : Int32} {pics : Option Nat} {images : Int32} {K : Option Nat → Prop} : cR (O4 ring top kept pics images) 4 3 K = K pics := by
  apply propext
  exact ⟨fun ⟨_, v, h1, h2, h3⟩ => by cases h1; cases h2; exact h3, fun h => ⟨_, _, rfl, rfl, h⟩⟩
theorem rN4_3 {ring : Option Nat} {top : Int32} {kept : Int32} {pics : Nat} {images : Int32} {K : Nat → Prop} : cN (O4 ring top kept (some pics) images) 4 3 K = K pics := by
  apply propext
  exact ⟨fun ⟨_, v, h1, h2, h3⟩ => by cases h1; cases h2; exact h3, fun h => ⟨_, _, rfl, rfl, h⟩⟩
theorem rP4_3 {ring : Option Nat} {top : Int32} {kept : Int32} {pics : Option Nat} {images : Int32} {v_ : Option Nat} {K : CE → Prop} : cP (O4 ring top kept pics images) 4 3 (aR v_) K = K (O4 ring top kept v_ images) := by
  apply propext
  exact ⟨fun ⟨_, h1, h3⟩ => by cases h1; exact h3, fun h => ⟨_, rfl, h⟩⟩
theorem rI4_4 {ring : Option Nat} {top : Int32} {kept : Int32} {pics : Option Nat} {images : Int32} {K : Int32 → Prop} : cI (O4 ring top kept pics images) 4 4 K = K images := by
  apply propext
  exact ⟨fun ⟨_, v, h1, h2, h3⟩ => by cases h1; cases h2; exact h3, fun h => ⟨_, _, rfl, rfl, h⟩⟩
theorem rP4_4 {ring : Option Nat} {top : Int32} {kept : Int32} {pics : Option Nat} {images : Int32} {v_ : Int32} {K : CE → Prop} : cP (O4 ring top kept pics images) 4 4 (aI v_) K = K (O4 ring top kept pics v_) := by
  apply propext
  exact ⟨fun ⟨_, h1, h3⟩ => by cases h1; exact h3, fun h => ⟨_, rfl, h⟩⟩
/-- an object of Piece -/
abbrev O5 (num : Int32) (name : Int64) (kind : Int32) (wide : Int32) (high : Int32) (turns : Bool) (owner : Int32) : CE := .inl (5, [aI num, aJ name, aI kind, aI wide, aI high, aI (bi turns), aI owner])
theorem rI5_0 {num : Int32} {name : Int64} {kind : Int32} {wide : Int32} {high : Int32} {turns : Bool} {owner : Int32} {K : Int32 → Prop} : cI (O5 num name kind wide high turns owner) 5 0 K = K num := by
  apply propext
  exact ⟨fun ⟨_, v, h1, h2, h3⟩ => by cases h1; cases h2; exact h3, fun h => ⟨_, _, rfl, rfl, h⟩⟩
theorem rP5_0 {num : Int32} {name : Int64} {kind : Int32} {wide : Int32} {high : Int32} {turns : Bool} {owner : Int32} {v_ : Int32} {K : CE → Prop} : cP (O5 num name kind wide high turns owner) 5 0 (aI v_) K = K (O5 v_ name kind wide high turns owner) := by
  apply propext
  exact ⟨fun ⟨_, h1, h3⟩ => by cases h1; exact h3, fun h => ⟨_, rfl, h⟩⟩
theorem rJ5_1 {num : Int32} {name : Int64} {kind : Int32} {wide : Int32} {high : Int32} {turns : Bool} {owner : Int32} {K : Int64 → Prop} : cJ (O5 num name kind wide high turns owner) 5 1 K = K name := by
  apply propext
  exact ⟨fun ⟨_, v, h1, h2, h3⟩ => by cases h1; cases h2; exact h3, fun h => ⟨_, _, rfl, rfl, h⟩⟩
theorem rP5_1 {num : Int32} {name : Int64} {kind : Int32} {wide : Int32} {high : Int32} {turns : Bool} {owner : Int32} {v_ : Int64} {K : CE → Prop} : cP (O5 num name kind wide high turns owner) 5 1 (aJ v_) K = K (O5 num v_ kind wide high turns owner) := by
  apply propext
  exact ⟨fun ⟨_, h1, h3⟩ => by cases h1; exact h3, fun h => ⟨_, rfl, h⟩⟩
theorem rI5_2 {num : Int32} {name : Int64} {kind : Int32} {wide : Int32} {high : Int32} {turns : Bool} {owner : Int32} {K : Int32 → Prop} : cI (O5 num name kind wide high turns owner) 5 2 K = K kind := by
  apply propext
  exact ⟨fun ⟨_, v, h1, h2, h3⟩ => by cases h1; cases h2; exact h3, fun h => ⟨_, _, rfl, rfl, h⟩⟩
theorem rP5_2 {num : Int32} {name : Int64} {kind : Int32} {wide : Int32} {high : Int32} {turns : Bool} {owner : Int32} {v_ : Int32} {K : CE → Prop} : cP (O5 num name kind wide high turns owner) 5 2 (aI v_) K = K (O5 num name v_ wide high turns owner) := by
  apply propext
  exact ⟨fun ⟨_, h1, h3⟩ => by cases h1; exact h3, fun h => ⟨_, rfl, h⟩⟩
theorem rI5_3 {num : Int32} {name : Int64} {kind : Int32} {wide : Int32} {high : Int32} {turns : Bool} {owner : Int32} {K : Int32 → Prop} : cI (O5 num name kind wide high turns owner) 5 3 K = K wide := by
  apply propext
  exact ⟨fun ⟨_, v, h1, h2, h3⟩ => by cases h1; cases h2; exact h3, fun h => ⟨_, _, rfl, rfl, h⟩⟩
theorem rP5_3 {num : Int32} {name : Int64} {kind : Int32} {wide : Int32} {high : Int32} {turns : Bool} {owner : Int32} {v_ : Int32} {K : CE → Prop} : cP (O5 num name kind wide high turns owner) 5 3 (aI v_) K = K (O5 num name kind v_ high turns owner) := by
  apply propext
  exact ⟨fun ⟨_, h1, h3⟩ => by cases h1; exact h3, fun h => ⟨_, rfl, h⟩⟩
theorem rI5_4 {num : Int32} {name : Int64} {kind : Int32} {wide : Int32} {high : Int32} {turns : Bool} {owner : Int32} {K : Int32 → Prop} : cI (O5 num name kind wide high turns owner) 5 4 K = K high := by
  apply propext
  exact ⟨fun ⟨_, v, h1, h2, h3⟩ => by cases h1; cases h2; exact h3, fun h => ⟨_, _, rfl, rfl, h⟩⟩
theorem rP5_4 {num : Int32} {name : Int64} {kind : Int32} {wide : Int32} {high : Int32} {turns : Bool} {owner : Int32} {v_ : Int32} {K : CE → Prop} : cP (O5 num name kind wide high turns owner) 5 4 (aI v_) K = K (O5 num name kind wide v_ turns owner) := by
  apply propext
  exact ⟨fun ⟨_, h1, h3⟩ => by cases h1; exact h3, fun h => ⟨_, rfl, h⟩⟩
theorem rZ5_5 {num : Int32} {name : Int64} {kind : Int32} {wide : Int32} {high : Int32} {turns : Bool} {owner : Int32} {K : Bool → Prop} : cZ (O5 num name kind wide high turns owner) 5 5 K = K turns := by
  apply propext
  exact ⟨fun ⟨_, v, h1, h2, h3⟩ => by cases h1; rw [bi_inj (aI_inj (Option.some.inj h2))]; exact h3, fun h => ⟨_, _, rfl, rfl, h⟩⟩
theorem rP5_5 {num : Int32} {name : Int64} {kind : Int32} {wide : Int32} {high : Int32} {turns : Bool} {owner : Int32} {v_ : Bool} {K : CE → Prop} : cP (O5 num name kind wide high turns owner) 5 5 (aI (bi v_)) K = K (O5 num name kind wide high v_ owner) := by
  apply propext
  exact ⟨fun ⟨_, h1, h3⟩ => by cases h1; exact h3, fun h => ⟨_, rfl, h⟩⟩
theorem rI5_6 {num : Int32} {name : Int64} {kind : Int32} {wide : Int32} {high : Int32} {turns : Bool} {owner : Int32} {K : Int32 → Prop} : cI (O5 num name kind wide high turns owner) 5 6 K = K owner := by
  apply propext
  exact ⟨fun ⟨_, v, h1, h2, h3⟩ => by cases h1; cases h2; exact h3, fun h => ⟨_, _, rfl, rfl, h⟩⟩
theorem rP5_6 {num : Int32} {name : Int64} {kind : Int32} {wide : Int32} {high : Int32} {turns : Bool} {owner : Int32} {v_ : Int32} {K : CE → Prop} : cP (O5 num name kind wide high turns owner) 5 6 (aI v_) K = K (O5 num name kind wide high turns v_) := by
  apply propext
  exact ⟨fun ⟨_, h1, h3⟩ => by cases h1; exact h3, fun h => ⟨_, rfl, h⟩⟩
/-- an object of Players -/
abbrev O6 (walk : Option Nat) : CE := .inl (6, [aR walk])
theorem rR6_0 {walk : Option Nat} {K : Option Nat → Prop} : cR (O6 walk) 6 0 K = K walk := by
  apply propext
  exact ⟨fun ⟨_, v, h1, h2, h3⟩ => by cases h1; cases h2; exact h3, fun h => ⟨_, _, rfl, rfl, h⟩⟩
theorem rN6_0 {walk : Nat} {K : Nat → Prop} : cN (O6 (some walk)) 6 0 K = K walk := by
  apply propext
  exact ⟨fun ⟨_, v, h1, h2, h3⟩ => by cases h1; cases h2; exact h3, fun h => ⟨_, _, rfl, rfl, h⟩⟩
theorem rP6_0 {walk : Option Nat} {v_ : Option Nat} {K : CE → Prop} : cP (O6 walk) 6 0 (aR v_) K = K (O6 v_) := by
  apply propext
  exact ⟨fun ⟨_, h1, h3⟩ => by cases h1; exact h3, fun h => ⟨_, rfl, h⟩⟩
/-- an object of Rows -/
abbrev O7 (sizes : Option Nat) (made : Option Nat) (nothing : Option Nat) (seen : Option Nat) (stamp : Int32) : CE := .inl (7, [aR sizes, aR made, aR nothing, aR seen, aI stamp])
theorem rR7_0 {sizes : Option Nat} {made : Option Nat} {nothing : Option Nat} {seen : Option Nat} {stamp : Int32} {K : Option Nat → Prop} : cR (O7 sizes made nothing seen stamp) 7 0 K = K sizes := by
  apply propext
  exact ⟨fun ⟨_, v, h1, h2, h3⟩ => by cases h1; cases h2; exact h3, fun h => ⟨_, _, rfl, rfl, h⟩⟩
theorem rN7_0 {sizes : Nat} {made : Option Nat} {nothing : Option Nat} {seen : Option Nat} {stamp : Int32} {K : Nat → Prop} : cN (O7 (some sizes) made nothing seen stamp) 7 0 K = K sizes := by
  apply propext
  exact ⟨fun ⟨_, v, h1, h2, h3⟩ => by cases h1; cases h2; exact h3, fun h => ⟨_, _, rfl, rfl, h⟩⟩
theorem rP7_0 {sizes : Option Nat} {made : Option Nat} {nothing : Option Nat} {seen : Option Nat} {stamp : Int32} {v_ : Option Nat} {K : CE → Prop} : cP (O7 sizes made nothing seen stamp) 7 0 (aR v_) K = K (O7 v_ made nothing seen stamp) := by
  apply propext
  exact ⟨fun ⟨_, h1, h3⟩ => by cases h1; exact h3, fun h => ⟨_, rfl, h⟩⟩
theorem rR7_1 {sizes : Option Nat} {made : Option Nat} {nothing : Option Nat} {seen : Option Nat} {stamp : Int32} {K : Option Nat → Prop} : cR (O7 sizes made nothing seen stamp) 7 1 K = K made := by
  apply propext
  exact ⟨fun ⟨_, v, h1, h2, h3⟩ => by cases h1; cases h2; exact h3, fun h => ⟨_, _, rfl, rfl, h⟩⟩
theorem rN7_1 {sizes : Option Nat} {made : Nat} {nothing : Option Nat} {seen : Option Nat} {stamp : Int32} {K : Nat → Prop} : cN (O7 sizes (some made) nothing seen stamp) 7 1 K = K made := by
  apply propext
  exact ⟨fun ⟨_, v, h1, h2, h3⟩ => by cases h1; cases h2; exact h3, fun h => ⟨_, _, rfl, rfl, h⟩⟩
theorem rP7_1 {sizes : Option Nat} {made : Option Nat} {nothing : Option Nat} {seen : Option Nat} {stamp : Int32} {v_ : Option Nat} {K : CE → Prop} : cP (O7 sizes made nothing seen stamp) 7 1 (aR v_) K = K (O7 sizes v_ nothing seen stamp) := by
  apply propext
  exact ⟨fun ⟨_, h1, h3⟩ => by cases h1; exact h3, fun h => ⟨_, rfl, h⟩⟩
theorem rR7_2 {sizes : Option Nat} {made : Option Nat} {nothing : Option Nat} {seen : Option Nat} {stamp : Int32} {K : Option Nat → Prop} : cR (O7 sizes made nothing seen stamp) 7 2 K = K nothing := by
  apply propext
  exact ⟨fun ⟨_, v, h1, h2, h3⟩ => by cases h1; cases h2; exact h3, fun h => ⟨_, _, rfl, rfl, h⟩⟩
theorem rN7_2 {sizes : Option Nat} {made : Option Nat} {nothing : Nat} {seen : Option Nat} {stamp : Int32} {K : Nat → Prop} : cN (O7 sizes made (some nothing) seen stamp) 7 2 K = K nothing := by
  apply propext
  exact ⟨fun ⟨_, v, h1, h2, h3⟩ => by cases h1; cases h2; exact h3, fun h => ⟨_, _, rfl, rfl, h⟩⟩
theorem rP7_2 {sizes : Option Nat} {made : Option Nat} {nothing : Option Nat} {seen : Option Nat} {stamp : Int32} {v_ : Option Nat} {K : CE → Prop} : cP (O7 sizes made nothing seen stamp) 7 2 (aR v_) K = K (O7 sizes made v_ seen stamp) := by
  apply propext
  exact ⟨fun ⟨_, h1, h3⟩ => by cases h1; exact h3, fun h => ⟨_, rfl, h⟩⟩
theorem rR7_3 {sizes : Option Nat} {made : Option Nat} {nothing : Option Nat} {seen : Option Nat} {stamp : Int32} {K : Option Nat → Prop} : cR (O7 sizes made nothing seen stamp) 7 3 K = K seen := by
  apply propext
  exact ⟨fun ⟨_, v, h1, h2, h3⟩ => by cases h1; cases h2; exact h3, fun h => ⟨_, _, rfl, rfl, h⟩⟩
theorem rN7_3 {sizes : Option Nat} {made : Option Nat} {nothing : Option Nat} {seen : Nat} {stamp : Int32} {K : Nat → Prop} : cN (O7 sizes made nothing (some seen) stamp) 7 3 K = K seen := by
  apply propext
  exact ⟨fun ⟨_, v, h1, h2, h3⟩ => by cases h1; cases h2; exact h3, fun h => ⟨_, _, rfl, rfl, h⟩⟩
theorem rP7_3 {sizes : Option Nat} {made : Option Nat} {nothing : Option Nat} {seen : Option Nat} {stamp : Int32} {v_ : Option Nat} {K : CE → Prop} : cP (O7 sizes made nothing seen stamp) 7 3 (aR v_) K = K (O7 sizes made nothing v_ stamp) := by
  apply propext
  exact ⟨fun ⟨_, h1, h3⟩ => by cases h1; exact h3, fun h => ⟨_, rfl, h⟩⟩
theorem rI7_4 {sizes : Option Nat} {made : Option Nat} {nothing : Option Nat} {seen : Option Nat} {stamp : Int32} {K : Int32 → Prop} : cI (O7 sizes made nothing seen stamp) 7 4 K = K stamp := by
  apply propext
  exact ⟨fun ⟨_, v, h1, h2, h3⟩ => by cases h1; cases h2; exact h3, fun h => ⟨_, _, rfl, rfl, h⟩⟩
theorem rP7_4 {sizes : Option Nat} {made : Option Nat} {nothing : Option Nat} {seen : Option Nat} {stamp : Int32} {v_ : Int32} {K : CE → Prop} : cP (O7 sizes made nothing seen stamp) 7 4 (aI v_) K = K (O7 sizes made nothing seen v_) := by
  apply propext
  exact ⟨fun ⟨_, h1, h3⟩ => by cases h1; exact h3, fun h => ⟨_, rfl, h⟩⟩
/-- an object of Table -/
abbrev O8 (law : Bool) (wins : Bool) (apart : Bool) (boards : Option Nat) (pieces : Option Nat) (squares : Int32) (jugs : Int32) (made : Bool) (lays : Option Nat) : CE := .inl (8, [aI (bi law), aI (bi wins), aI (bi apart), aR boards, aR pieces, aI squares, aI jugs, aI (bi made), aR lays])
theorem rZ8_0 {law : Bool} {wins : Bool} {apart : Bool} {boards : Option Nat} {pieces : Option Nat} {squares : Int32} {jugs : Int32} {made : Bool} {lays : Option Nat} {K : Bool → Prop} : cZ (O8 law wins apart boards pieces squares jugs made lays) 8 0 K = K law := by
  apply propext
  exact ⟨fun ⟨_, v, h1, h2, h3⟩ => by cases h1; rw [bi_inj (aI_inj (Option.some.inj h2))]; exact h3, fun h => ⟨_, _, rfl, rfl, h⟩⟩
theorem rP8_0 {law : Bool} {wins : Bool} {apart : Bool} {boards : Option Nat} {pieces : Option Nat} {squares : Int32} {jugs : Int32} {made : Bool} {lays : Option Nat} {v_ : Bool} {K : CE → Prop} : cP (O8 law wins apart boards pieces squares jugs made lays) 8 0 (aI (bi v_)) K = K (O8 v_ wins apart boards pieces squares jugs made lays) := by
  apply propext
  exact ⟨fun ⟨_, h1, h3⟩ => by cases h1; exact h3, fun h => ⟨_, rfl, h⟩⟩
theorem rZ8_1 {law : Bool} {wins : Bool} {apart : Bool} {boards : Option Nat} {pieces : Option Nat} {squares : Int32} {jugs : Int32} {made : Bool} {lays : Option Nat} {K : Bool → Prop} : cZ (O8 law wins apart boards pieces squares jugs made lays) 8 1 K = K wins := by
  apply propext
  exact ⟨fun ⟨_, v, h1, h2, h3⟩ => by cases h1; rw [bi_inj (aI_inj (Option.some.inj h2))]; exact h3, fun h => ⟨_, _, rfl, rfl, h⟩⟩
theorem rP8_1 {law : Bool} {wins : Bool} {apart : Bool} {boards : Option Nat} {pieces : Option Nat} {squares : Int32} {jugs : Int32} {made : Bool} {lays : Option Nat} {v_ : Bool} {K : CE → Prop} : cP (O8 law wins apart boards pieces squares jugs made lays) 8 1 (aI (bi v_)) K = K (O8 law v_ apart boards pieces squares jugs made lays) := by
  apply propext
  exact ⟨fun ⟨_, h1, h3⟩ => by cases h1; exact h3, fun h => ⟨_, rfl, h⟩⟩
theorem rZ8_2 {law : Bool} {wins : Bool} {apart : Bool} {boards : Option Nat} {pieces : Option Nat} {squares : Int32} {jugs : Int32} {made : Bool} {lays : Option Nat} {K : Bool → Prop} : cZ (O8 law wins apart boards pieces squares jugs made lays) 8 2 K = K apart := by
  apply propext
  exact ⟨fun ⟨_, v, h1, h2, h3⟩ => by cases h1; rw [bi_inj (aI_inj (Option.some.inj h2))]; exact h3, fun h => ⟨_, _, rfl, rfl, h⟩⟩
theorem rP8_2 {law : Bool} {wins : Bool} {apart : Bool} {boards : Option Nat} {pieces : Option Nat} {squares : Int32} {jugs : Int32} {made : Bool} {lays : Option Nat} {v_ : Bool} {K : CE → Prop} : cP (O8 law wins apart boards pieces squares jugs made lays) 8 2 (aI (bi v_)) K = K (O8 law wins v_ boards pieces squares jugs made lays) := by
  apply propext
  exact ⟨fun ⟨_, h1, h3⟩ => by cases h1; exact h3, fun h => ⟨_, rfl, h⟩⟩
theorem rR8_3 {law : Bool} {wins : Bool} {apart : Bool} {boards : Option Nat} {pieces : Option Nat} {squares : Int32} {jugs : Int32} {made : Bool} {lays : Option Nat} {K : Option Nat → Prop} : cR (O8 law wins apart boards pieces squares jugs made lays) 8 3 K = K boards := by
  apply propext
  exact ⟨fun ⟨_, v, h1, h2, h3⟩ => by cases h1; cases h2; exact h3, fun h => ⟨_, _, rfl, rfl, h⟩⟩
theorem rN8_3 {law : Bool} {wins : Bool} {apart : Bool} {boards : Nat} {pieces : Option Nat} {squares : Int32} {jugs : Int32} {made : Bool} {lays : Option Nat} {K : Nat → Prop} : cN (O8 law wins apart (some boards) pieces squares jugs made lays) 8 3 K = K boards := by
  apply propext
  exact ⟨fun ⟨_, v, h1, h2, h3⟩ => by cases h1; cases h2; exact h3, fun h => ⟨_, _, rfl, rfl, h⟩⟩
theorem rP8_3 {law : Bool} {wins : Bool} {apart : Bool} {boards : Option Nat} {pieces : Option Nat} {squares : Int32} {jugs : Int32} {made : Bool} {lays : Option Nat} {v_ : Option Nat} {K : CE → Prop} : cP (O8 law wins apart boards pieces squares jugs made lays) 8 3 (aR v_) K = K (O8 law wins apart v_ pieces squares jugs made lays) := by
  apply propext
  exact ⟨fun ⟨_, h1, h3⟩ => by cases h1; exact h3, fun h => ⟨_, rfl, h⟩⟩
theorem rR8_4 {law : Bool} {wins : Bool} {apart : Bool} {boards : Option Nat} {pieces : Option Nat} {squares : Int32} {jugs : Int32} {made : Bool} {lays : Option Nat} {K : Option Nat → Prop} : cR (O8 law wins apart boards pieces squares jugs made lays) 8 4 K = K pieces := by
  apply propext
  exact ⟨fun ⟨_, v, h1, h2, h3⟩ => by cases h1; cases h2; exact h3, fun h => ⟨_, _, rfl, rfl, h⟩⟩
theorem rN8_4 {law : Bool} {wins : Bool} {apart : Bool} {boards : Option Nat} {pieces : Nat} {squares : Int32} {jugs : Int32} {made : Bool} {lays : Option Nat} {K : Nat → Prop} : cN (O8 law wins apart boards (some pieces) squares jugs made lays) 8 4 K = K pieces := by
  apply propext
  exact ⟨fun ⟨_, v, h1, h2, h3⟩ => by cases h1; cases h2; exact h3, fun h => ⟨_, _, rfl, rfl, h⟩⟩
theorem rP8_4 {law : Bool} {wins : Bool} {apart : Bool} {boards : Option Nat} {pieces : Option Nat} {squares : Int32} {jugs : Int32} {made : Bool} {lays : Option Nat} {v_ : Option Nat} {K : CE → Prop} : cP (O8 law wins apart boards pieces squares jugs made lays) 8 4 (aR v_) K = K (O8 law wins apart boards v_ squares jugs made lays) := by
  apply propext
  exact ⟨fun ⟨_, h1, h3⟩ => by cases h1; exact h3, fun h => ⟨_, rfl, h⟩⟩
theorem rI8_5 {law : Bool} {wins : Bool} {apart : Bool} {boards : Option Nat} {pieces : Option Nat} {squares : Int32} {jugs : Int32} {made : Bool} {lays : Option Nat} {K : Int32 → Prop} : cI (O8 law wins apart boards pieces squares jugs made lays) 8 5 K = K squares := by
  apply propext
  exact ⟨fun ⟨_, v, h1, h2, h3⟩ => by cases h1; cases h2; exact h3, fun h => ⟨_, _, rfl, rfl, h⟩⟩
theorem rP8_5 {law : Bool} {wins : Bool} {apart : Bool} {boards : Option Nat} {pieces : Option Nat} {squares : Int32} {jugs : Int32} {made : Bool} {lays : Option Nat} {v_ : Int32} {K : CE → Prop} : cP (O8 law wins apart boards pieces squares jugs made lays) 8 5 (aI v_) K = K (O8 law wins apart boards pieces v_ jugs made lays) := by
  apply propext
  exact ⟨fun ⟨_, h1, h3⟩ => by cases h1; exact h3, fun h => ⟨_, rfl, h⟩⟩
theorem rI8_6 {law : Bool} {wins : Bool} {apart : Bool} {boards : Option Nat} {pieces : Option Nat} {squares : Int32} {jugs : Int32} {made : Bool} {lays : Option Nat} {K : Int32 → Prop} : cI (O8 law wins apart boards pieces squares jugs made lays) 8 6 K = K jugs := by
  apply propext
  exact ⟨fun ⟨_, v, h1, h2, h3⟩ => by cases h1; cases h2; exact h3, fun h => ⟨_, _, rfl, rfl, h⟩⟩
theorem rP8_6 {law : Bool} {wins : Bool} {apart : Bool} {boards : Option Nat} {pieces : Option Nat} {squares : Int32} {jugs : Int32} {made : Bool} {lays : Option Nat} {v_ : Int32} {K : CE → Prop} : cP (O8 law wins apart boards pieces squares jugs made lays) 8 6 (aI v_) K = K (O8 law wins apart boards pieces squares v_ made lays) := by
  apply propext
  exact ⟨fun ⟨_, h1, h3⟩ => by cases h1; exact h3, fun h => ⟨_, rfl, h⟩⟩
theorem rZ8_7 {law : Bool} {wins : Bool} {apart : Bool} {boards : Option Nat} {pieces : Option Nat} {squares : Int32} {jugs : Int32} {made : Bool} {lays : Option Nat} {K : Bool → Prop} : cZ (O8 law wins apart boards pieces squares jugs made lays) 8 7 K = K made := by
  apply propext
  exact ⟨fun ⟨_, v, h1, h2, h3⟩ => by cases h1; rw [bi_inj (aI_inj (Option.some.inj h2))]; exact h3, fun h => ⟨_, _, rfl, rfl, h⟩⟩
theorem rP8_7 {law : Bool} {wins : Bool} {apart : Bool} {boards : Option Nat} {pieces : Option Nat} {squares : Int32} {jugs : Int32} {made : Bool} {lays : Option Nat} {v_ : Bool} {K : CE → Prop} : cP (O8 law wins apart boards pieces squares jugs made lays) 8 7 (aI (bi v_)) K = K (O8 law wins apart boards pieces squares jugs v_ lays) := by
  apply propext
  exact ⟨fun ⟨_, h1, h3⟩ => by cases h1; exact h3, fun h => ⟨_, rfl, h⟩⟩
theorem rR8_8 {law : Bool} {wins : Bool} {apart : Bool} {boards : Option Nat} {pieces : Option Nat} {squares : Int32} {jugs : Int32} {made : Bool} {lays : Option Nat} {K : Option Nat → Prop} : cR (O8 law wins apart boards pieces squares jugs made lays) 8 8 K = K lays := by
  apply propext
  exact ⟨fun ⟨_, v, h1, h2, h3⟩ => by cases h1; cases h2; exact h3, fun h => ⟨_, _, rfl, rfl, h⟩⟩
theorem rN8_8 {law : Bool} {wins : Bool} {apart : Bool} {boards : Option Nat} {pieces : Option Nat} {squares : Int32} {jugs : Int32} {made : Bool} {lays : Nat} {K : Nat → Prop} : cN (O8 law wins apart boards pieces squares jugs made (some lays)) 8 8 K = K lays := by
  apply propext
  exact ⟨fun ⟨_, v, h1, h2, h3⟩ => by cases h1; cases h2; exact h3, fun h => ⟨_, _, rfl, rfl, h⟩⟩
theorem rP8_8 {law : Bool} {wins : Bool} {apart : Bool} {boards : Option Nat} {pieces : Option Nat} {squares : Int32} {jugs : Int32} {made : Bool} {lays : Option Nat} {v_ : Option Nat} {K : CE → Prop} : cP (O8 law wins apart boards pieces squares jugs made lays) 8 8 (aR v_) K = K (O8 law wins apart boards pieces squares jugs made v_) := by
  apply propext
  exact ⟨fun ⟨_, h1, h3⟩ => by cases h1; exact h3, fun h => ⟨_, rfl, h⟩⟩
/-- an object of Telling -/
abbrev O9 (tokens : Option Nat) (laid : Option Nat) (table : Option Nat) (fault : Int32) (place : Int32) (newName : Int64) (p1 : Int32) (p2 : Int32) : CE := .inl (9, [aR tokens, aR laid, aR table, aI fault, aI place, aJ newName, aI p1, aI p2])
theorem rR9_0 {tokens : Option Nat} {laid : Option Nat} {table : Option Nat} {fault : Int32} {place : Int32} {newName : Int64} {p1 : Int32} {p2 : Int32} {K : Option Nat → Prop} : cR (O9 tokens laid table fault place newName p1 p2) 9 0 K = K tokens := by
  apply propext
  exact ⟨fun ⟨_, v, h1, h2, h3⟩ => by cases h1; cases h2; exact h3, fun h => ⟨_, _, rfl, rfl, h⟩⟩
theorem rN9_0 {tokens : Nat} {laid : Option Nat} {table : Option Nat} {fault : Int32} {place : Int32} {newName : Int64} {p1 : Int32} {p2 : Int32} {K : Nat → Prop} : cN (O9 (some tokens) laid table fault place newName p1 p2) 9 0 K = K tokens := by
  apply propext
  exact ⟨fun ⟨_, v, h1, h2, h3⟩ => by cases h1; cases h2; exact h3, fun h => ⟨_, _, rfl, rfl, h⟩⟩
theorem rP9_0 {tokens : Option Nat} {laid : Option Nat} {table : Option Nat} {fault : Int32} {place : Int32} {newName : Int64} {p1 : Int32} {p2 : Int32} {v_ : Option Nat} {K : CE → Prop} : cP (O9 tokens laid table fault place newName p1 p2) 9 0 (aR v_) K = K (O9 v_ laid table fault place newName p1 p2) := by
  apply propext
  exact ⟨fun ⟨_, h1, h3⟩ => by cases h1; exact h3, fun h => ⟨_, rfl, h⟩⟩
theorem rR9_1 {tokens : Option Nat} {laid : Option Nat} {table : Option Nat} {fault : Int32} {place : Int32} {newName : Int64} {p1 : Int32} {p2 : Int32} {K : Option Nat → Prop} : cR (O9 tokens laid table fault place newName p1 p2) 9 1 K = K laid := by
  apply propext
  exact ⟨fun ⟨_, v, h1, h2, h3⟩ => by cases h1; cases h2; exact h3, fun h => ⟨_, _, rfl, rfl, h⟩⟩
theorem rN9_1 {tokens : Option Nat} {laid : Nat} {table : Option Nat} {fault : Int32} {place : Int32} {newName : Int64} {p1 : Int32} {p2 : Int32} {K : Nat → Prop} : cN (O9 tokens (some laid) table fault place newName p1 p2) 9 1 K = K laid := by
  apply propext
  exact ⟨fun ⟨_, v, h1, h2, h3⟩ => by cases h1; cases h2; exact h3, fun h => ⟨_, _, rfl, rfl, h⟩⟩
theorem rP9_1 {tokens : Option Nat} {laid : Option Nat} {table : Option Nat} {fault : Int32} {place : Int32} {newName : Int64} {p1 : Int32} {p2 : Int32} {v_ : Option Nat} {K : CE → Prop} : cP (O9 tokens laid table fault place newName p1 p2) 9 1 (aR v_) K = K (O9 tokens v_ table fault place newName p1 p2) := by
  apply propext
  exact ⟨fun ⟨_, h1, h3⟩ => by cases h1; exact h3, fun h => ⟨_, rfl, h⟩⟩
theorem rR9_2 {tokens : Option Nat} {laid : Option Nat} {table : Option Nat} {fault : Int32} {place : Int32} {newName : Int64} {p1 : Int32} {p2 : Int32} {K : Option Nat → Prop} : cR (O9 tokens laid table fault place newName p1 p2) 9 2 K = K table := by
  apply propext
  exact ⟨fun ⟨_, v, h1, h2, h3⟩ => by cases h1; cases h2; exact h3, fun h => ⟨_, _, rfl, rfl, h⟩⟩
theorem rN9_2 {tokens : Option Nat} {laid : Option Nat} {table : Nat} {fault : Int32} {place : Int32} {newName : Int64} {p1 : Int32} {p2 : Int32} {K : Nat → Prop} : cN (O9 tokens laid (some table) fault place newName p1 p2) 9 2 K = K table := by
  apply propext
  exact ⟨fun ⟨_, v, h1, h2, h3⟩ => by cases h1; cases h2; exact h3, fun h => ⟨_, _, rfl, rfl, h⟩⟩
theorem rP9_2 {tokens : Option Nat} {laid : Option Nat} {table : Option Nat} {fault : Int32} {place : Int32} {newName : Int64} {p1 : Int32} {p2 : Int32} {v_ : Option Nat} {K : CE → Prop} : cP (O9 tokens laid table fault place newName p1 p2) 9 2 (aR v_) K = K (O9 tokens laid v_ fault place newName p1 p2) := by
  apply propext
  exact ⟨fun ⟨_, h1, h3⟩ => by cases h1; exact h3, fun h => ⟨_, rfl, h⟩⟩
theorem rI9_3 {tokens : Option Nat} {laid : Option Nat} {table : Option Nat} {fault : Int32} {place : Int32} {newName : Int64} {p1 : Int32} {p2 : Int32} {K : Int32 → Prop} : cI (O9 tokens laid table fault place newName p1 p2) 9 3 K = K fault := by
  apply propext
  exact ⟨fun ⟨_, v, h1, h2, h3⟩ => by cases h1; cases h2; exact h3, fun h => ⟨_, _, rfl, rfl, h⟩⟩
theorem rP9_3 {tokens : Option Nat} {laid : Option Nat} {table : Option Nat} {fault : Int32} {place : Int32} {newName : Int64} {p1 : Int32} {p2 : Int32} {v_ : Int32} {K : CE → Prop} : cP (O9 tokens laid table fault place newName p1 p2) 9 3 (aI v_) K = K (O9 tokens laid table v_ place newName p1 p2) := by
  apply propext
  exact ⟨fun ⟨_, h1, h3⟩ => by cases h1; exact h3, fun h => ⟨_, rfl, h⟩⟩
theorem rI9_4 {tokens : Option Nat} {laid : Option Nat} {table : Option Nat} {fault : Int32} {place : Int32} {newName : Int64} {p1 : Int32} {p2 : Int32} {K : Int32 → Prop} : cI (O9 tokens laid table fault place newName p1 p2) 9 4 K = K place := by
  apply propext
  exact ⟨fun ⟨_, v, h1, h2, h3⟩ => by cases h1; cases h2; exact h3, fun h => ⟨_, _, rfl, rfl, h⟩⟩
theorem rP9_4 {tokens : Option Nat} {laid : Option Nat} {table : Option Nat} {fault : Int32} {place : Int32} {newName : Int64} {p1 : Int32} {p2 : Int32} {v_ : Int32} {K : CE → Prop} : cP (O9 tokens laid table fault place newName p1 p2) 9 4 (aI v_) K = K (O9 tokens laid table fault v_ newName p1 p2) := by
  apply propext
  exact ⟨fun ⟨_, h1, h3⟩ => by cases h1; exact h3, fun h => ⟨_, rfl, h⟩⟩
theorem rJ9_5 {tokens : Option Nat} {laid : Option Nat} {table : Option Nat} {fault : Int32} {place : Int32} {newName : Int64} {p1 : Int32} {p2 : Int32} {K : Int64 → Prop} : cJ (O9 tokens laid table fault place newName p1 p2) 9 5 K = K newName := by
  apply propext
  exact ⟨fun ⟨_, v, h1, h2, h3⟩ => by cases h1; cases h2; exact h3, fun h => ⟨_, _, rfl, rfl, h⟩⟩
theorem rP9_5 {tokens : Option Nat} {laid : Option Nat} {table : Option Nat} {fault : Int32} {place : Int32} {newName : Int64} {p1 : Int32} {p2 : Int32} {v_ : Int64} {K : CE → Prop} : cP (O9 tokens laid table fault place newName p1 p2) 9 5 (aJ v_) K = K (O9 tokens laid table fault place v_ p1 p2) := by
  apply propext
  exact ⟨fun ⟨_, h1, h3⟩ => by cases h1; exact h3, fun h => ⟨_, rfl, h⟩⟩
theorem rI9_6 {tokens : Option Nat} {laid : Option Nat} {table : Option Nat} {fault : Int32} {place : Int32} {newName : Int64} {p1 : Int32} {p2 : Int32} {K : Int32 → Prop} : cI (O9 tokens laid table fault place newName p1 p2) 9 6 K = K p1 := by
  apply propext
  exact ⟨fun ⟨_, v, h1, h2, h3⟩ => by cases h1; cases h2; exact h3, fun h => ⟨_, _, rfl, rfl, h⟩⟩
theorem rP9_6 {tokens : Option Nat} {laid : Option Nat} {table : Option Nat} {fault : Int32} {place : Int32} {newName : Int64} {p1 : Int32} {p2 : Int32} {v_ : Int32} {K : CE → Prop} : cP (O9 tokens laid table fault place newName p1 p2) 9 6 (aI v_) K = K (O9 tokens laid table fault place newName v_ p2) := by
  apply propext
  exact ⟨fun ⟨_, h1, h3⟩ => by cases h1; exact h3, fun h => ⟨_, rfl, h⟩⟩
theorem rI9_7 {tokens : Option Nat} {laid : Option Nat} {table : Option Nat} {fault : Int32} {place : Int32} {newName : Int64} {p1 : Int32} {p2 : Int32} {K : Int32 → Prop} : cI (O9 tokens laid table fault place newName p1 p2) 9 7 K = K p2 := by
  apply propext
  exact ⟨fun ⟨_, v, h1, h2, h3⟩ => by cases h1; cases h2; exact h3, fun h => ⟨_, _, rfl, rfl, h⟩⟩
theorem rP9_7 {tokens : Option Nat} {laid : Option Nat} {table : Option Nat} {fault : Int32} {place : Int32} {newName : Int64} {p1 : Int32} {p2 : Int32} {v_ : Int32} {K : CE → Prop} : cP (O9 tokens laid table fault place newName p1 p2) 9 7 (aI v_) K = K (O9 tokens laid table fault place newName p1 v_) := by
  apply propext
  exact ⟨fun ⟨_, h1, h3⟩ => by cases h1; exact h3, fun h => ⟨_, rfl, h⟩⟩
/-- an object of Tokens -/
abbrev O10 (bytes : Option Nat) (stop : Int32) (place : Int32) (kind : Int32) (length : Int32) : CE := .inl (10, [aR bytes, aI stop, aI place, aI kind, aI length])
theorem rR10_0 {bytes : Option Nat} {stop : Int32} {place : Int32} {kind : Int32} {length : Int32} {K : Option Nat → Prop} : cR (O10 bytes stop place kind length) 10 0 K = K bytes := by
  apply propext
  exact ⟨fun ⟨_, v, h1, h2, h3⟩ => by cases h1; cases h2; exact h3, fun h => ⟨_, _, rfl, rfl, h⟩⟩
theorem rN10_0 {bytes : Nat} {stop : Int32} {place : Int32} {kind : Int32} {length : Int32} {K : Nat → Prop} : cN (O10 (some bytes) stop place kind length) 10 0 K = K bytes := by
  apply propext
  exact ⟨fun ⟨_, v, h1, h2, h3⟩ => by cases h1; cases h2; exact h3, fun h => ⟨_, _, rfl, rfl, h⟩⟩
theorem rP10_0 {bytes : Option Nat} {stop : Int32} {place : Int32} {kind : Int32} {length : Int32} {v_ : Option Nat} {K : CE → Prop} : cP (O10 bytes stop place kind length) 10 0 (aR v_) K = K (O10 v_ stop place kind length) := by
  apply propext
  exact ⟨fun ⟨_, h1, h3⟩ => by cases h1; exact h3, fun h => ⟨_, rfl, h⟩⟩
theorem rI10_1 {bytes : Option Nat} {stop : Int32} {place : Int32} {kind : Int32} {length : Int32} {K : Int32 → Prop} : cI (O10 bytes stop place kind length) 10 1 K = K stop := by
  apply propext
  exact ⟨fun ⟨_, v, h1, h2, h3⟩ => by cases h1; cases h2; exact h3, fun h => ⟨_, _, rfl, rfl, h⟩⟩
theorem rP10_1 {bytes : Option Nat} {stop : Int32} {place : Int32} {kind : Int32} {length : Int32} {v_ : Int32} {K : CE → Prop} : cP (O10 bytes stop place kind length) 10 1 (aI v_) K = K (O10 bytes v_ place kind length) := by
  apply propext
  exact ⟨fun ⟨_, h1, h3⟩ => by cases h1; exact h3, fun h => ⟨_, rfl, h⟩⟩
theorem rI10_2 {bytes : Option Nat} {stop : Int32} {place : Int32} {kind : Int32} {length : Int32} {K : Int32 → Prop} : cI (O10 bytes stop place kind length) 10 2 K = K place := by
  apply propext
  exact ⟨fun ⟨_, v, h1, h2, h3⟩ => by cases h1; cases h2; exact h3, fun h => ⟨_, _, rfl, rfl, h⟩⟩
theorem rP10_2 {bytes : Option Nat} {stop : Int32} {place : Int32} {kind : Int32} {length : Int32} {v_ : Int32} {K : CE → Prop} : cP (O10 bytes stop place kind length) 10 2 (aI v_) K = K (O10 bytes stop v_ kind length) := by
  apply propext
  exact ⟨fun ⟨_, h1, h3⟩ => by cases h1; exact h3, fun h => ⟨_, rfl, h⟩⟩
theorem rI10_3 {bytes : Option Nat} {stop : Int32} {place : Int32} {kind : Int32} {length : Int32} {K : Int32 → Prop} : cI (O10 bytes stop place kind length) 10 3 K = K kind := by
  apply propext
  exact ⟨fun ⟨_, v, h1, h2, h3⟩ => by cases h1; cases h2; exact h3, fun h => ⟨_, _, rfl, rfl, h⟩⟩
theorem rP10_3 {bytes : Option Nat} {stop : Int32} {place : Int32} {kind : Int32} {length : Int32} {v_ : Int32} {K : CE → Prop} : cP (O10 bytes stop place kind length) 10 3 (aI v_) K = K (O10 bytes stop place v_ length) := by
  apply propext
  exact ⟨fun ⟨_, h1, h3⟩ => by cases h1; exact h3, fun h => ⟨_, rfl, h⟩⟩
theorem rI10_4 {bytes : Option Nat} {stop : Int32} {place : Int32} {kind : Int32} {length : Int32} {K : Int32 → Prop} : cI (O10 bytes stop place kind length) 10 4 K = K length := by
  apply propext
  exact ⟨fun ⟨_, v, h1, h2, h3⟩ => by cases h1; cases h2; exact h3, fun h => ⟨_, _, rfl, rfl, h⟩⟩
theorem rP10_4 {bytes : Option Nat} {stop : Int32} {place : Int32} {kind : Int32} {length : Int32} {v_ : Int32} {K : CE → Prop} : cP (O10 bytes stop place kind length) 10 4 (aI v_) K = K (O10 bytes stop place kind v_) := by
  apply propext
  exact ⟨fun ⟨_, h1, h3⟩ => by cases h1; exact h3, fun h => ⟨_, rfl, h⟩⟩
/-- an object of CoinsLaid -/
abbrev O11 (tape : Option Nat) (tl : Int32) (fault : Int32) (place : Int32) (trouble : Int32) (cur : Option Nat) (outl : Option Nat) (laid : Option Nat) (told : Option Nat) (past : Option Nat) (players : Option Nat) (rows : Option Nat) : CE := .inl (11, [aR tape, aI tl, aI fault, aI place, aI trouble, aR cur, aR outl, aR laid, aR told, aR past, aR players, aR rows])
theorem rR11_0 {tape : Option Nat} {tl : Int32} {fault : Int32} {place : Int32} {trouble : Int32} {cur : Option Nat} {outl : Option Nat} {laid : Option Nat} {told : Option Nat} {past : Option Nat} {players : Option Nat} {rows : Option Nat} {K : Option Nat → Prop} : cR (O11 tape tl fault place trouble cur outl laid told past players rows) 11 0 K = K tape := by
  apply propext
  exact ⟨fun ⟨_, v, h1, h2, h3⟩ => by cases h1; cases h2; exact h3, fun h => ⟨_, _, rfl, rfl, h⟩⟩
theorem rN11_0 {tape : Nat} {tl : Int32} {fault : Int32} {place : Int32} {trouble : Int32} {cur : Option Nat} {outl : Option Nat} {laid : Option Nat} {told : Option Nat} {past : Option Nat} {players : Option Nat} {rows : Option Nat} {K : Nat → Prop} : cN (O11 (some tape) tl fault place trouble cur outl laid told past players rows) 11 0 K = K tape := by
  apply propext
  exact ⟨fun ⟨_, v, h1, h2, h3⟩ => by cases h1; cases h2; exact h3, fun h => ⟨_, _, rfl, rfl, h⟩⟩
theorem rP11_0 {tape : Option Nat} {tl : Int32} {fault : Int32} {place : Int32} {trouble : Int32} {cur : Option Nat} {outl : Option Nat} {laid : Option Nat} {told : Option Nat} {past : Option Nat} {players : Option Nat} {rows : Option Nat} {v_ : Option Nat} {K : CE → Prop} : cP (O11 tape tl fault place trouble cur outl laid told past players rows) 11 0 (aR v_) K = K (O11 v_ tl fault place trouble cur outl laid told past players rows) := by
  apply propext
  exact ⟨fun ⟨_, h1, h3⟩ => by cases h1; exact h3, fun h => ⟨_, rfl, h⟩⟩
theorem rI11_1 {tape : Option Nat} {tl : Int32} {fault : Int32} {place : Int32} {trouble : Int32} {cur : Option Nat} {outl : Option Nat} {laid : Option Nat} {told : Option Nat} {past : Option Nat} {players : Option Nat} {rows : Option Nat} {K : Int32 → Prop} : cI (O11 tape tl fault place trouble cur outl laid told past players rows) 11 1 K = K tl := by
  apply propext
  exact ⟨fun ⟨_, v, h1, h2, h3⟩ => by cases h1; cases h2; exact h3, fun h => ⟨_, _, rfl, rfl, h⟩⟩
theorem rP11_1 {tape : Option Nat} {tl : Int32} {fault : Int32} {place : Int32} {trouble : Int32} {cur : Option Nat} {outl : Option Nat} {laid : Option Nat} {told : Option Nat} {past : Option Nat} {players : Option Nat} {rows : Option Nat} {v_ : Int32} {K : CE → Prop} : cP (O11 tape tl fault place trouble cur outl laid told past players rows) 11 1 (aI v_) K = K (O11 tape v_ fault place trouble cur outl laid told past players rows) := by
  apply propext
  exact ⟨fun ⟨_, h1, h3⟩ => by cases h1; exact h3, fun h => ⟨_, rfl, h⟩⟩
theorem rI11_2 {tape : Option Nat} {tl : Int32} {fault : Int32} {place : Int32} {trouble : Int32} {cur : Option Nat} {outl : Option Nat} {laid : Option Nat} {told : Option Nat} {past : Option Nat} {players : Option Nat} {rows : Option Nat} {K : Int32 → Prop} : cI (O11 tape tl fault place trouble cur outl laid told past players rows) 11 2 K = K fault := by
  apply propext
  exact ⟨fun ⟨_, v, h1, h2, h3⟩ => by cases h1; cases h2; exact h3, fun h => ⟨_, _, rfl, rfl, h⟩⟩
theorem rP11_2 {tape : Option Nat} {tl : Int32} {fault : Int32} {place : Int32} {trouble : Int32} {cur : Option Nat} {outl : Option Nat} {laid : Option Nat} {told : Option Nat} {past : Option Nat} {players : Option Nat} {rows : Option Nat} {v_ : Int32} {K : CE → Prop} : cP (O11 tape tl fault place trouble cur outl laid told past players rows) 11 2 (aI v_) K = K (O11 tape tl v_ place trouble cur outl laid told past players rows) := by
  apply propext
  exact ⟨fun ⟨_, h1, h3⟩ => by cases h1; exact h3, fun h => ⟨_, rfl, h⟩⟩
theorem rI11_3 {tape : Option Nat} {tl : Int32} {fault : Int32} {place : Int32} {trouble : Int32} {cur : Option Nat} {outl : Option Nat} {laid : Option Nat} {told : Option Nat} {past : Option Nat} {players : Option Nat} {rows : Option Nat} {K : Int32 → Prop} : cI (O11 tape tl fault place trouble cur outl laid told past players rows) 11 3 K = K place := by
  apply propext
  exact ⟨fun ⟨_, v, h1, h2, h3⟩ => by cases h1; cases h2; exact h3, fun h => ⟨_, _, rfl, rfl, h⟩⟩
theorem rP11_3 {tape : Option Nat} {tl : Int32} {fault : Int32} {place : Int32} {trouble : Int32} {cur : Option Nat} {outl : Option Nat} {laid : Option Nat} {told : Option Nat} {past : Option Nat} {players : Option Nat} {rows : Option Nat} {v_ : Int32} {K : CE → Prop} : cP (O11 tape tl fault place trouble cur outl laid told past players rows) 11 3 (aI v_) K = K (O11 tape tl fault v_ trouble cur outl laid told past players rows) := by
  apply propext
  exact ⟨fun ⟨_, h1, h3⟩ => by cases h1; exact h3, fun h => ⟨_, rfl, h⟩⟩
theorem rI11_4 {tape : Option Nat} {tl : Int32} {fault : Int32} {place : Int32} {trouble : Int32} {cur : Option Nat} {outl : Option Nat} {laid : Option Nat} {told : Option Nat} {past : Option Nat} {players : Option Nat} {rows : Option Nat} {K : Int32 → Prop} : cI (O11 tape tl fault place trouble cur outl laid told past players rows) 11 4 K = K trouble := by
  apply propext
  exact ⟨fun ⟨_, v, h1, h2, h3⟩ => by cases h1; cases h2; exact h3, fun h => ⟨_, _, rfl, rfl, h⟩⟩
theorem rP11_4 {tape : Option Nat} {tl : Int32} {fault : Int32} {place : Int32} {trouble : Int32} {cur : Option Nat} {outl : Option Nat} {laid : Option Nat} {told : Option Nat} {past : Option Nat} {players : Option Nat} {rows : Option Nat} {v_ : Int32} {K : CE → Prop} : cP (O11 tape tl fault place trouble cur outl laid told past players rows) 11 4 (aI v_) K = K (O11 tape tl fault place v_ cur outl laid told past players rows) := by
  apply propext
  exact ⟨fun ⟨_, h1, h3⟩ => by cases h1; exact h3, fun h => ⟨_, rfl, h⟩⟩
theorem rR11_5 {tape : Option Nat} {tl : Int32} {fault : Int32} {place : Int32} {trouble : Int32} {cur : Option Nat} {outl : Option Nat} {laid : Option Nat} {told : Option Nat} {past : Option Nat} {players : Option Nat} {rows : Option Nat} {K : Option Nat → Prop} : cR (O11 tape tl fault place trouble cur outl laid told past players rows) 11 5 K = K cur := by
  apply propext
  exact ⟨fun ⟨_, v, h1, h2, h3⟩ => by cases h1; cases h2; exact h3, fun h => ⟨_, _, rfl, rfl, h⟩⟩
theorem rN11_5 {tape : Option Nat} {tl : Int32} {fault : Int32} {place : Int32} {trouble : Int32} {cur : Nat} {outl : Option Nat} {laid : Option Nat} {told : Option Nat} {past : Option Nat} {players : Option Nat} {rows : Option Nat} {K : Nat → Prop} : cN (O11 tape tl fault place trouble (some cur) outl laid told past players rows) 11 5 K = K cur := by
  apply propext
  exact ⟨fun ⟨_, v, h1, h2, h3⟩ => by cases h1; cases h2; exact h3, fun h => ⟨_, _, rfl, rfl, h⟩⟩
theorem rP11_5 {tape : Option Nat} {tl : Int32} {fault : Int32} {place : Int32} {trouble : Int32} {cur : Option Nat} {outl : Option Nat} {laid : Option Nat} {told : Option Nat} {past : Option Nat} {players : Option Nat} {rows : Option Nat} {v_ : Option Nat} {K : CE → Prop} : cP (O11 tape tl fault place trouble cur outl laid told past players rows) 11 5 (aR v_) K = K (O11 tape tl fault place trouble v_ outl laid told past players rows) := by
  apply propext
  exact ⟨fun ⟨_, h1, h3⟩ => by cases h1; exact h3, fun h => ⟨_, rfl, h⟩⟩
theorem rR11_6 {tape : Option Nat} {tl : Int32} {fault : Int32} {place : Int32} {trouble : Int32} {cur : Option Nat} {outl : Option Nat} {laid : Option Nat} {told : Option Nat} {past : Option Nat} {players : Option Nat} {rows : Option Nat} {K : Option Nat → Prop} : cR (O11 tape tl fault place trouble cur outl laid told past players rows) 11 6 K = K outl := by
  apply propext
  exact ⟨fun ⟨_, v, h1, h2, h3⟩ => by cases h1; cases h2; exact h3, fun h => ⟨_, _, rfl, rfl, h⟩⟩
theorem rN11_6 {tape : Option Nat} {tl : Int32} {fault : Int32} {place : Int32} {trouble : Int32} {cur : Option Nat} {outl : Nat} {laid : Option Nat} {told : Option Nat} {past : Option Nat} {players : Option Nat} {rows : Option Nat} {K : Nat → Prop} : cN (O11 tape tl fault place trouble cur (some outl) laid told past players rows) 11 6 K = K outl := by
  apply propext
  exact ⟨fun ⟨_, v, h1, h2, h3⟩ => by cases h1; cases h2; exact h3, fun h => ⟨_, _, rfl, rfl, h⟩⟩
theorem rP11_6 {tape : Option Nat} {tl : Int32} {fault : Int32} {place : Int32} {trouble : Int32} {cur : Option Nat} {outl : Option Nat} {laid : Option Nat} {told : Option Nat} {past : Option Nat} {players : Option Nat} {rows : Option Nat} {v_ : Option Nat} {K : CE → Prop} : cP (O11 tape tl fault place trouble cur outl laid told past players rows) 11 6 (aR v_) K = K (O11 tape tl fault place trouble cur v_ laid told past players rows) := by
  apply propext
  exact ⟨fun ⟨_, h1, h3⟩ => by cases h1; exact h3, fun h => ⟨_, rfl, h⟩⟩
theorem rR11_7 {tape : Option Nat} {tl : Int32} {fault : Int32} {place : Int32} {trouble : Int32} {cur : Option Nat} {outl : Option Nat} {laid : Option Nat} {told : Option Nat} {past : Option Nat} {players : Option Nat} {rows : Option Nat} {K : Option Nat → Prop} : cR (O11 tape tl fault place trouble cur outl laid told past players rows) 11 7 K = K laid := by
  apply propext
  exact ⟨fun ⟨_, v, h1, h2, h3⟩ => by cases h1; cases h2; exact h3, fun h => ⟨_, _, rfl, rfl, h⟩⟩
theorem rN11_7 {tape : Option Nat} {tl : Int32} {fault : Int32} {place : Int32} {trouble : Int32} {cur : Option Nat} {outl : Option Nat} {laid : Nat} {told : Option Nat} {past : Option Nat} {players : Option Nat} {rows : Option Nat} {K : Nat → Prop} : cN (O11 tape tl fault place trouble cur outl (some laid) told past players rows) 11 7 K = K laid := by
  apply propext
  exact ⟨fun ⟨_, v, h1, h2, h3⟩ => by cases h1; cases h2; exact h3, fun h => ⟨_, _, rfl, rfl, h⟩⟩
theorem rP11_7 {tape : Option Nat} {tl : Int32} {fault : Int32} {place : Int32} {trouble : Int32} {cur : Option Nat} {outl : Option Nat} {laid : Option Nat} {told : Option Nat} {past : Option Nat} {players : Option Nat} {rows : Option Nat} {v_ : Option Nat} {K : CE → Prop} : cP (O11 tape tl fault place trouble cur outl laid told past players rows) 11 7 (aR v_) K = K (O11 tape tl fault place trouble cur outl v_ told past players rows) := by
  apply propext
  exact ⟨fun ⟨_, h1, h3⟩ => by cases h1; exact h3, fun h => ⟨_, rfl, h⟩⟩
theorem rR11_8 {tape : Option Nat} {tl : Int32} {fault : Int32} {place : Int32} {trouble : Int32} {cur : Option Nat} {outl : Option Nat} {laid : Option Nat} {told : Option Nat} {past : Option Nat} {players : Option Nat} {rows : Option Nat} {K : Option Nat → Prop} : cR (O11 tape tl fault place trouble cur outl laid told past players rows) 11 8 K = K told := by
  apply propext
  exact ⟨fun ⟨_, v, h1, h2, h3⟩ => by cases h1; cases h2; exact h3, fun h => ⟨_, _, rfl, rfl, h⟩⟩
theorem rN11_8 {tape : Option Nat} {tl : Int32} {fault : Int32} {place : Int32} {trouble : Int32} {cur : Option Nat} {outl : Option Nat} {laid : Option Nat} {told : Nat} {past : Option Nat} {players : Option Nat} {rows : Option Nat} {K : Nat → Prop} : cN (O11 tape tl fault place trouble cur outl laid (some told) past players rows) 11 8 K = K told := by
  apply propext
  exact ⟨fun ⟨_, v, h1, h2, h3⟩ => by cases h1; cases h2; exact h3, fun h => ⟨_, _, rfl, rfl, h⟩⟩
theorem rP11_8 {tape : Option Nat} {tl : Int32} {fault : Int32} {place : Int32} {trouble : Int32} {cur : Option Nat} {outl : Option Nat} {laid : Option Nat} {told : Option Nat} {past : Option Nat} {players : Option Nat} {rows : Option Nat} {v_ : Option Nat} {K : CE → Prop} : cP (O11 tape tl fault place trouble cur outl laid told past players rows) 11 8 (aR v_) K = K (O11 tape tl fault place trouble cur outl laid v_ past players rows) := by
  apply propext
  exact ⟨fun ⟨_, h1, h3⟩ => by cases h1; exact h3, fun h => ⟨_, rfl, h⟩⟩
theorem rR11_9 {tape : Option Nat} {tl : Int32} {fault : Int32} {place : Int32} {trouble : Int32} {cur : Option Nat} {outl : Option Nat} {laid : Option Nat} {told : Option Nat} {past : Option Nat} {players : Option Nat} {rows : Option Nat} {K : Option Nat → Prop} : cR (O11 tape tl fault place trouble cur outl laid told past players rows) 11 9 K = K past := by
  apply propext
  exact ⟨fun ⟨_, v, h1, h2, h3⟩ => by cases h1; cases h2; exact h3, fun h => ⟨_, _, rfl, rfl, h⟩⟩
theorem rN11_9 {tape : Option Nat} {tl : Int32} {fault : Int32} {place : Int32} {trouble : Int32} {cur : Option Nat} {outl : Option Nat} {laid : Option Nat} {told : Option Nat} {past : Nat} {players : Option Nat} {rows : Option Nat} {K : Nat → Prop} : cN (O11 tape tl fault place trouble cur outl laid told (some past) players rows) 11 9 K = K past := by
  apply propext
  exact ⟨fun ⟨_, v, h1, h2, h3⟩ => by cases h1; cases h2; exact h3, fun h => ⟨_, _, rfl, rfl, h⟩⟩
theorem rP11_9 {tape : Option Nat} {tl : Int32} {fault : Int32} {place : Int32} {trouble : Int32} {cur : Option Nat} {outl : Option Nat} {laid : Option Nat} {told : Option Nat} {past : Option Nat} {players : Option Nat} {rows : Option Nat} {v_ : Option Nat} {K : CE → Prop} : cP (O11 tape tl fault place trouble cur outl laid told past players rows) 11 9 (aR v_) K = K (O11 tape tl fault place trouble cur outl laid told v_ players rows) := by
  apply propext
  exact ⟨fun ⟨_, h1, h3⟩ => by cases h1; exact h3, fun h => ⟨_, rfl, h⟩⟩
theorem rR11_10 {tape : Option Nat} {tl : Int32} {fault : Int32} {place : Int32} {trouble : Int32} {cur : Option Nat} {outl : Option Nat} {laid : Option Nat} {told : Option Nat} {past : Option Nat} {players : Option Nat} {rows : Option Nat} {K : Option Nat → Prop} : cR (O11 tape tl fault place trouble cur outl laid told past players rows) 11 10 K = K players := by
  apply propext
  exact ⟨fun ⟨_, v, h1, h2, h3⟩ => by cases h1; cases h2; exact h3, fun h => ⟨_, _, rfl, rfl, h⟩⟩
theorem rN11_10 {tape : Option Nat} {tl : Int32} {fault : Int32} {place : Int32} {trouble : Int32} {cur : Option Nat} {outl : Option Nat} {laid : Option Nat} {told : Option Nat} {past : Option Nat} {players : Nat} {rows : Option Nat} {K : Nat → Prop} : cN (O11 tape tl fault place trouble cur outl laid told past (some players) rows) 11 10 K = K players := by
  apply propext
  exact ⟨fun ⟨_, v, h1, h2, h3⟩ => by cases h1; cases h2; exact h3, fun h => ⟨_, _, rfl, rfl, h⟩⟩
theorem rP11_10 {tape : Option Nat} {tl : Int32} {fault : Int32} {place : Int32} {trouble : Int32} {cur : Option Nat} {outl : Option Nat} {laid : Option Nat} {told : Option Nat} {past : Option Nat} {players : Option Nat} {rows : Option Nat} {v_ : Option Nat} {K : CE → Prop} : cP (O11 tape tl fault place trouble cur outl laid told past players rows) 11 10 (aR v_) K = K (O11 tape tl fault place trouble cur outl laid told past v_ rows) := by
  apply propext
  exact ⟨fun ⟨_, h1, h3⟩ => by cases h1; exact h3, fun h => ⟨_, rfl, h⟩⟩
theorem rR11_11 {tape : Option Nat} {tl : Int32} {fault : Int32} {place : Int32} {trouble : Int32} {cur : Option Nat} {outl : Option Nat} {laid : Option Nat} {told : Option Nat} {past : Option Nat} {players : Option Nat} {rows : Option Nat} {K : Option Nat → Prop} : cR (O11 tape tl fault place trouble cur outl laid told past players rows) 11 11 K = K rows := by
  apply propext
  exact ⟨fun ⟨_, v, h1, h2, h3⟩ => by cases h1; cases h2; exact h3, fun h => ⟨_, _, rfl, rfl, h⟩⟩
theorem rN11_11 {tape : Option Nat} {tl : Int32} {fault : Int32} {place : Int32} {trouble : Int32} {cur : Option Nat} {outl : Option Nat} {laid : Option Nat} {told : Option Nat} {past : Option Nat} {players : Option Nat} {rows : Nat} {K : Nat → Prop} : cN (O11 tape tl fault place trouble cur outl laid told past players (some rows)) 11 11 K = K rows := by
  apply propext
  exact ⟨fun ⟨_, v, h1, h2, h3⟩ => by cases h1; cases h2; exact h3, fun h => ⟨_, _, rfl, rfl, h⟩⟩
theorem rP11_11 {tape : Option Nat} {tl : Int32} {fault : Int32} {place : Int32} {trouble : Int32} {cur : Option Nat} {outl : Option Nat} {laid : Option Nat} {told : Option Nat} {past : Option Nat} {players : Option Nat} {rows : Option Nat} {v_ : Option Nat} {K : CE → Prop} : cP (O11 tape tl fault place trouble cur outl laid told past players rows) 11 11 (aR v_) K = K (O11 tape tl fault place trouble cur outl laid told past players v_) := by
  apply propext
  exact ⟨fun ⟨_, h1, h3⟩ => by cases h1; exact h3, fun h => ⟨_, rfl, h⟩⟩
/-- an object of ArrayList -/
abbrev O13 (mod : Int32) (data : Option Nat) (size : Int32) : CE := .inl (13, [aI mod, aR data, aI size])
theorem rI13_0 {mod : Int32} {data : Option Nat} {size : Int32} {K : Int32 → Prop} : cI (O13 mod data size) 13 0 K = K mod := by
  apply propext
  exact ⟨fun ⟨_, v, h1, h2, h3⟩ => by cases h1; cases h2; exact h3, fun h => ⟨_, _, rfl, rfl, h⟩⟩
theorem rP13_0 {mod : Int32} {data : Option Nat} {size : Int32} {v_ : Int32} {K : CE → Prop} : cP (O13 mod data size) 13 0 (aI v_) K = K (O13 v_ data size) := by
  apply propext
  exact ⟨fun ⟨_, h1, h3⟩ => by cases h1; exact h3, fun h => ⟨_, rfl, h⟩⟩
theorem rR13_1 {mod : Int32} {data : Option Nat} {size : Int32} {K : Option Nat → Prop} : cR (O13 mod data size) 13 1 K = K data := by
  apply propext
  exact ⟨fun ⟨_, v, h1, h2, h3⟩ => by cases h1; cases h2; exact h3, fun h => ⟨_, _, rfl, rfl, h⟩⟩
theorem rN13_1 {mod : Int32} {data : Nat} {size : Int32} {K : Nat → Prop} : cN (O13 mod (some data) size) 13 1 K = K data := by
  apply propext
  exact ⟨fun ⟨_, v, h1, h2, h3⟩ => by cases h1; cases h2; exact h3, fun h => ⟨_, _, rfl, rfl, h⟩⟩
theorem rP13_1 {mod : Int32} {data : Option Nat} {size : Int32} {v_ : Option Nat} {K : CE → Prop} : cP (O13 mod data size) 13 1 (aR v_) K = K (O13 mod v_ size) := by
  apply propext
  exact ⟨fun ⟨_, h1, h3⟩ => by cases h1; exact h3, fun h => ⟨_, rfl, h⟩⟩
theorem rI13_2 {mod : Int32} {data : Option Nat} {size : Int32} {K : Int32 → Prop} : cI (O13 mod data size) 13 2 K = K size := by
  apply propext
  exact ⟨fun ⟨_, v, h1, h2, h3⟩ => by cases h1; cases h2; exact h3, fun h => ⟨_, _, rfl, rfl, h⟩⟩
theorem rP13_2 {mod : Int32} {data : Option Nat} {size : Int32} {v_ : Int32} {K : CE → Prop} : cP (O13 mod data size) 13 2 (aI v_) K = K (O13 mod data v_) := by
  apply propext
  exact ⟨fun ⟨_, h1, h3⟩ => by cases h1; exact h3, fun h => ⟨_, rfl, h⟩⟩
