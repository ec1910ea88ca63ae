/-! the class's region: reads and writes by index; what lies (Laid) -/
def xI (c : CE) (i : Int32) (K : Int32 → Prop) : Prop := ∃ N f, c = iA N f ∧ vp_in i N ∧ K (f i.toNatClampNeg)
def xZ (c : CE) (i : Int32) (K : Bool → Prop) : Prop := ∃ N f, c = zA N f ∧ vp_in i N ∧ K (f i.toNatClampNeg)
def xJ (c : CE) (i : Int32) (K : Int64 → Prop) : Prop := ∃ N f, c = jA N f ∧ vp_in i N ∧ K (f i.toNatClampNeg)
def xN (t : Nat) (c : CE) (i : Int32) (K : Nat → Prop) : Prop := ∃ N f v, c = rA t N f ∧ vp_in i N ∧ f i.toNatClampNeg = some v ∧ K v
def yI (c : CE) (i x : Int32) (K : CE → Prop) : Prop := ∃ N f, c = iA N f ∧ vp_in i N ∧ K (iA N (up_ f i.toNatClampNeg x))
def yZ (c : CE) (i : Int32) (x : Bool) (K : CE → Prop) : Prop := ∃ N f, c = zA N f ∧ vp_in i N ∧ K (zA N (up_ f i.toNatClampNeg x))
def yJ (c : CE) (i : Int32) (x : Int64) (K : CE → Prop) : Prop := ∃ N f, c = jA N f ∧ vp_in i N ∧ K (jA N (up_ f i.toNatClampNeg x))
def yN (t z : Nat) (σ : Hp) (c : CE) (i : Int32) (x : Nat) (K : CE → Prop) : Prop := ∃ N f, c = rA t N f ∧ rv σ x z ∧ vp_in i N ∧ K (rA t N (up_ f i.toNatClampNeg (some x)))
def cL (c : CE) (K : Int32 → Prop) : Prop := ∃ t N f, c = .inr (t, N, f) ∧ K (nI N)
section CELLS
variable {N : Nat} {i : Int32}
theorem xI_r {f : Nat → Int32} {K : Int32 → Prop} : xI (iA N f) i K = (vp_in i N ∧ K (f i.toNatClampNeg)) := by
  apply propext
  exact ⟨fun ⟨_, _, h, h2, h3⟩ => by obtain ⟨rfl, rfl⟩ := iA_inj h; exact ⟨h2, h3⟩, fun h => ⟨_, _, rfl, h⟩⟩
theorem xZ_r {f : Nat → Bool} {K : Bool → Prop} : xZ (zA N f) i K = (vp_in i N ∧ K (f i.toNatClampNeg)) := by
  apply propext
  exact ⟨fun ⟨_, _, h, h2, h3⟩ => by obtain ⟨rfl, rfl⟩ := zA_inj h; exact ⟨h2, h3⟩, fun h => ⟨_, _, rfl, h⟩⟩
theorem xJ_r {f : Nat → Int64} {K : Int64 → Prop} : xJ (jA N f) i K = (vp_in i N ∧ K (f i.toNatClampNeg)) := by
  apply propext
  exact ⟨fun ⟨_, _, h, h2, h3⟩ => by obtain ⟨rfl, rfl⟩ := jA_inj h; exact ⟨h2, h3⟩, fun h => ⟨_, _, rfl, h⟩⟩
theorem xN_r {t : Nat} {f : Nat → Option Nat} {K : Nat → Prop} : xN t (rA t N f) i K = ∃ v, vp_in i N ∧ f i.toNatClampNeg = some v ∧ K v := by
  apply propext
  exact ⟨fun ⟨_, _, v, h, h2, h3, h4⟩ => by obtain ⟨rfl, rfl⟩ := rA_inj h; exact ⟨v, h2, h3, h4⟩, fun ⟨v, h2, h3, h4⟩ => ⟨_, _, v, rfl, h2, h3, h4⟩⟩
theorem yI_r {f : Nat → Int32} {x : Int32} {K : CE → Prop} : yI (iA N f) i x K = (vp_in i N ∧ K (iA N (up_ f i.toNatClampNeg x))) := by
  apply propext
  exact ⟨fun ⟨_, _, h, h2, h3⟩ => by obtain ⟨rfl, rfl⟩ := iA_inj h; exact ⟨h2, h3⟩, fun h => ⟨_, _, rfl, h⟩⟩
theorem yZ_r {f : Nat → Bool} {x : Bool} {K : CE → Prop} : yZ (zA N f) i x K = (vp_in i N ∧ K (zA N (up_ f i.toNatClampNeg x))) := by
  apply propext
  exact ⟨fun ⟨_, _, h, h2, h3⟩ => by obtain ⟨rfl, rfl⟩ := zA_inj h; exact ⟨h2, h3⟩, fun h => ⟨_, _, rfl, h⟩⟩
theorem yJ_r {f : Nat → Int64} {x : Int64} {K : CE → Prop} : yJ (jA N f) i x K = (vp_in i N ∧ K (jA N (up_ f i.toNatClampNeg x))) := by
  apply propext
  exact ⟨fun ⟨_, _, h, h2, h3⟩ => by obtain ⟨rfl, rfl⟩ := jA_inj h; exact ⟨h2, h3⟩, fun h => ⟨_, _, rfl, h⟩⟩
theorem yN_r {t z : Nat} {σ : Hp} {f : Nat → Option Nat} {x : Nat} {K : CE → Prop} : yN t z σ (rA t N f) i x K = (rv σ x z ∧ vp_in i N ∧ K (rA t N (up_ f i.toNatClampNeg (some x)))) := by
  apply propext
  exact ⟨fun ⟨_, _, h, h2⟩ => by obtain ⟨rfl, rfl⟩ := rA_inj h; exact h2, fun h => ⟨_, _, rfl, h⟩⟩
theorem cL_x {t : Nat} {f : Nat → AV} {K : Int32 → Prop} : cL (.inr (t, N, f)) K = K (nI N) := by
  apply propext
  exact ⟨fun ⟨_, _, _, h, h2⟩ => by cases h; exact h2, fun h => ⟨_, _, _, rfl, h⟩⟩
theorem cL_i {f : Nat → Int32} {K : Int32 → Prop} : cL (iA N f) K = K (nI N) := cL_x
theorem cL_z {f : Nat → Bool} {K : Int32 → Prop} : cL (zA N f) K = K (nI N) := cL_x
theorem cL_j {f : Nat → Int64} {K : Int32 → Prop} : cL (jA N f) K = K (nI N) := cL_x
theorem cL_r {t : Nat} {f : Nat → Option Nat} {K : Int32 → Prop} : cL (rA t N f) K = K (nI N) := cL_x
end CELLS
section CHC
variable {P : Nat → Nat} {C : Nat → CE} {τ : Hp} {k t j : Nat} {i : Int32}
theorem at_ex {σ : Hp} {a : Nat} {c : CE} (h : σ a = some c) {p : CE → Prop} : (∃ c', σ a = some c' ∧ p c') ↔ p c := ⟨fun ⟨_, h1, h2⟩ => by rw [h] at h1; cases h1; exact h2, fun h2 => ⟨c, h, h2⟩⟩
theorem fI_c (hB : okB 75 P) (hk : k < 75) {K : Int32 → Prop} : fI (ch 75 P C τ) (P k) t j K = cI (C k) t j K := fI_at (ch_a hB hk)
theorem fZ_c (hB : okB 75 P) (hk : k < 75) {K : Bool → Prop} : fZ (ch 75 P C τ) (P k) t j K = cZ (C k) t j K := fZ_at (ch_a hB hk)
theorem fJ_c (hB : okB 75 P) (hk : k < 75) {K : Int64 → Prop} : fJ (ch 75 P C τ) (P k) t j K = cJ (C k) t j K := fJ_at (ch_a hB hk)
theorem fR_c (hB : okB 75 P) (hk : k < 75) {K : Option Nat → Prop} : fR (ch 75 P C τ) (P k) t j K = cR (C k) t j K := fR_at (ch_a hB hk)
theorem fN_c (hB : okB 75 P) (hk : k < 75) {K : Nat → Prop} : fN (ch 75 P C τ) (P k) t j K = cN (C k) t j K := fN_at (ch_a hB hk)
theorem pF_c (hB : okB 75 P) (hk : k < 75) {v : AV} {K : Hp → Prop} : pF (ch 75 P C τ) (P k) t j v K = cP (C k) t j v fun c => K (ch 75 P (up_ C k c) τ) := by
  rw [pF_at (ch_a hB hk)]; simp only [ch_set hB hk]
theorem gI_c (hB : okB 75 P) (hk : k < 75) {K : Int32 → Prop} : gI (ch 75 P C τ) (P k) i K = xI (C k) i K := by
  unfold gI xI; simp only [ch_a hB hk, Option.some.injEq]
theorem gZ_c (hB : okB 75 P) (hk : k < 75) {K : Bool → Prop} : gZ (ch 75 P C τ) (P k) i K = xZ (C k) i K := by
  unfold gZ xZ; simp only [ch_a hB hk, Option.some.injEq]
theorem gJ_c (hB : okB 75 P) (hk : k < 75) {K : Int64 → Prop} : gJ (ch 75 P C τ) (P k) i K = xJ (C k) i K := by
  unfold gJ xJ; simp only [ch_a hB hk, Option.some.injEq]
theorem gN_c (hB : okB 75 P) (hk : k < 75) {K : Nat → Prop} : gN t (ch 75 P C τ) (P k) i K = xN t (C k) i K := by
  unfold gN xN; simp only [ch_a hB hk, Option.some.injEq]
theorem sI_c (hB : okB 75 P) (hk : k < 75) {x : Int32} {K : Hp → Prop} : sI (ch 75 P C τ) (P k) i x K = yI (C k) i x fun c => K (ch 75 P (up_ C k c) τ) := by
  unfold sI yI; simp only [ch_a hB hk, Option.some.injEq, ch_set hB hk]
theorem sZ_c (hB : okB 75 P) (hk : k < 75) {x : Bool} {K : Hp → Prop} : sZ (ch 75 P C τ) (P k) i x K = yZ (C k) i x fun c => K (ch 75 P (up_ C k c) τ) := by
  unfold sZ yZ; simp only [ch_a hB hk, Option.some.injEq, ch_set hB hk]
theorem sJ_c (hB : okB 75 P) (hk : k < 75) {x : Int64} {K : Hp → Prop} : sJ (ch 75 P C τ) (P k) i x K = yJ (C k) i x fun c => K (ch 75 P (up_ C k c) τ) := by
  unfold sJ yJ; simp only [ch_a hB hk, Option.some.injEq, ch_set hB hk]
theorem sN_c (hB : okB 75 P) (hk : k < 75) {z x : Nat} {K : Hp → Prop} : sN t z (ch 75 P C τ) (P k) i x K = yN t z (ch 75 P C τ) (C k) i x fun c => K (ch 75 P (up_ C k c) τ) := by
  unfold sN yN; simp only [ch_a hB hk, Option.some.injEq, ch_set hB hk]
theorem aL_c (hB : okB 75 P) (hk : k < 75) {K : Int32 → Prop} : aL (ch 75 P C τ) (P k) K = cL (C k) K := by
  unfold aL cL; simp only [ch_a hB hk, Option.some.injEq]
theorem rv_c (hB : okB 75 P) (hk : k < 75) (h : ofT (C k) t) : rv (ch 75 P C τ) (P k) t := rv_at (ch_a hB hk) h
theorem up_a {α : Type} (f : Nat → α) (k : Nat) (x : α) (j : Nat) : up_ f k x j = if j = k then x else f j := rfl
end CHC
/-- nothing changed but from lo up to hi -/
def Ck (lo hi : Nat) (C C' : Nat → CE) : Prop := ∀ j, j < lo ∨ hi < j → C' j = C j
theorem Ck.rf {lo hi : Nat} {C : Nat → CE} : Ck lo hi C C := fun _ _ => rfl
theorem Ck.tr {lo hi : Nat} {C C' C'' : Nat → CE} (h : Ck lo hi C C') (h' : Ck lo hi C' C'') : Ck lo hi C C'' := fun j hj => (h' j hj).trans (h j hj)
theorem Ck.mo {lo hi lo' hi' : Nat} {C C' : Nat → CE} (h : Ck lo hi C C') (h1 : lo' ≤ lo) (h2 : hi ≤ hi') : Ck lo' hi' C C' := fun j hj => h j (by omega)
theorem Ck.up {lo hi k : Nat} {C C' : Nat → CE} (h : Ck lo hi C C') (hk : lo ≤ k ∧ k ≤ hi) (c : CE) : Ck lo hi C (up_ C' k c) := fun j hj => by
  rw [up_ne (by omega)]; exact h j hj
/-- what lies, held at k (its object) and k + 1 (its array); a Laid with anything -/
def LDr (P : Nat → Nat) (xl : Nat → Nat) (L : List LY) (C : Nat → CE) (k : Nat) (r : RO) : Prop :=
  C k = O1 (some (P (k + 1))) (nI r.1.length) (nI (tkn L r.1)) (nI r.2) ∧ (∃ f, C (k + 1) = rA 3 14 f ∧ ∀ i n, r.1[i]? = some n → f i = some (xl n)) ∧ r.1.length ≤ 14
def LDs (P : Nat → Nat) (C : Nat → CE) (k : Nat) : Prop := (∃ c t s, C k = O1 (some (P (k + 1))) c t s) ∧ ∃ f, C (k + 1) = rA 3 14 f
theorem LDr.s {P : Nat → Nat} {xl : Nat → Nat} {L : List LY} {C : Nat → CE} {k : Nat} {r : RO} (h : LDr P xl L C k r) : LDs P C k := ⟨⟨_, _, _, h.1⟩, h.2.1.elim fun f hf => ⟨f, hf.1⟩⟩
theorem LDr.cg {P : Nat → Nat} {xl : Nat → Nat} {L : List LY} {C C' : Nat → CE} {k : Nat} {r : RO} (h : LDr P xl L C k r) (h1 : C' k = C k) (h2 : C' (k + 1) = C (k + 1)) : LDr P xl L C' k r := ⟨h1.trans h.1, h.2.1.elim fun f hf => ⟨f, h2.trans hf.1, hf.2⟩, h.2.2⟩
theorem LDs.cg {P : Nat → Nat} {C C' : Nat → CE} {k : Nat} (h : LDs P C k) (h1 : C' k = C k) (h2 : C' (k + 1) = C (k + 1)) : LDs P C' k := by
  obtain ⟨⟨c, t, s, h3⟩, f, h4⟩ := h
  exact ⟨⟨c, t, s, h1.trans h3⟩, f, h2.trans h4⟩
/-- the lays that lie are lays, outside the region -/
def LYS (P : Nat → Nat) (τ : Hp) (xl : Nat → Nat) (ls : List Nat) : Prop := ∀ x ∈ ls, outB 75 P (xl x) ∧ rv τ (xl x) 2
theorem rv_out {P : Nat → Nat} {C : Nat → CE} {τ : Hp} {q t : Nat} (h : outB 75 P q) (h2 : rv τ q t) : rv (ch 75 P C τ) q t := by
  obtain ⟨fs, h3⟩ := h2
  exact ⟨fs, (ch_r h).trans h3⟩
def atR (ls : List Nat) (v : Int32) : Option Nat := (ix v ls.length).bind fun i => ls[i]?
section LAID
variable {l : Launch} {G : GG} {d : Nat} {P : Nat → Nat} {C : Nat → CE} {τ : Hp} {xl : Nat → Nat} {L : List LY} {r : RO} {k : Nat}
theorem s_X1_at (hB : okB 75 P) (hk : k + 1 < 75) (h : LDr P xl L C k r) {v : Int32} {K : Option Nat → Hp → Prop} (hK : K ((atR r.1 v).map xl) (ch 75 P C τ)) : C_X1_at l G (d + 1) (P k) v (ch 75 P C τ) K := by
  have hk0 : k < 75 := by omega
  obtain ⟨h1, ⟨f, h2, h3⟩, h4⟩ := h
  refine m_X1_at (rv_c hB hk0 (by rw [h1]; exact ⟨_, rfl⟩)) ?_
  simp only [F_X1_at_31, F_X1_at_30, F_X1_at, fI_c hB, fZ_c hB, fJ_c hB, fR_c hB, fN_c hB, pF_c hB, gI_c hB, gZ_c hB, gJ_c hB, gN_c hB, sI_c hB, sZ_c hB, sJ_c hB, sN_c hB, aL_c hB, Nat.reduceLT, hk, hk0, h1, h2, rR1_0, rN1_0, rP1_0, rI1_1, rP1_1, rI1_2, rP1_2, rI1_3, rP1_3, xI_r, xZ_r, xJ_r, xN_r, yI_r, yZ_r, yJ_r, yN_r, cL_i, cL_z, cL_j, cL_r]
  unfold atR at hK
  refine ⟨fun c1 => ?_, fun c1 => ?_⟩
  · rw [ix, if_neg fun c => c.1 c1] at hK; exact hK
  · obtain ⟨i, hi, rfl⟩ := nt_of c1
    rw [ix_nI hi (by omega)] at hK
    rw [nt_le (by omega) hi, nt_le (by omega) hi]
    refine ⟨fun c2 => ?_, fun c2 => ⟨fun c3 => by omega, fun c3 => ?_⟩⟩
    · rw [if_neg (by omega)] at hK; exact hK
    · rw [if_pos (by omega)] at hK
      obtain ⟨x, hx⟩ : ∃ x, r.1[i]? = some x := ⟨_, List.getElem?_eq_getElem (by omega)⟩
      refine ⟨xl x, (nt_in hi).mpr (by omega), ?_, ?_⟩
      · rw [nI_clamp hi]; exact h3 i x hx
      · simpa [hx] using hK
theorem s_X1_latest (hB : okB 75 P) (hk : k + 1 < 75) (h : LDr P xl L C k r) {K : Option Nat → Hp → Prop} (hK : K (r.1.getLast?.map xl) (ch 75 P C τ)) : C_X1_latest l G (d + 2) (P k) (ch 75 P C τ) K := by
  have hk0 : k < 75 := by omega
  have h1 := h.1
  have h4 := h.2.2
  refine m_X1_latest (rv_c hB hk0 (by rw [h1]; exact ⟨_, rfl⟩)) ?_
  simp only [F_X1_latest, fI_c hB, fZ_c hB, fJ_c hB, fR_c hB, fN_c hB, pF_c hB, gI_c hB, gZ_c hB, gJ_c hB, gN_c hB, sI_c hB, sZ_c hB, sJ_c hB, sN_c hB, aL_c hB, Nat.reduceLT, hk0, h1, rR1_0, rN1_0, rP1_0, rI1_1, rP1_1, rI1_2, rP1_2, rI1_3, rP1_3]
  refine s_X1_at (d := d) hB hk h ?_
  suffices hs : atR r.1 (nI r.1.length - 1) = r.1.getLast? by rw [hs]; exact hK
  unfold atR
  cases hr : r.1.length with
  | zero =>
    rw [ix, if_neg fun c => c.1 (by decide)]
    have : r.1 = [] := List.length_eq_zero_iff.mp hr
    rw [this]; rfl
  | succ n =>
    rw [show (1 : Int32) = nI 1 from rfl, nt_sub (by omega) (by omega), ix_nI (by omega) (by omega), if_pos (by omega), List.getLast?_eq_getElem?, hr]
    rfl
theorem s_X1_next (hB : okB 75 P) (hk : k < 75) (h : LDr P xl L C k r) {K : Int32 → Hp → Prop} (hK : K (nI (r.1.length % 2)) (ch 75 P C τ)) : C_X1_next l G (d + 1) (P k) (ch 75 P C τ) K := by
  have h1 := h.1
  refine m_X1_next (rv_c hB hk (by rw [h1]; exact ⟨_, rfl⟩)) ?_
  simp only [F_X1_next, fI_c hB, fZ_c hB, fJ_c hB, fR_c hB, fN_c hB, pF_c hB, gI_c hB, gZ_c hB, gJ_c hB, gN_c hB, sI_c hB, sZ_c hB, sJ_c hB, sN_c hB, aL_c hB, Nat.reduceLT, hk, h1, rR1_0, rN1_0, rP1_0, rI1_1, rP1_1, rI1_2, rP1_2, rI1_3, rP1_3]
  rw [show (1 : Int32) = nI 1 from rfl, nt_and, Nat.and_one_is_mod]
  exact hK
theorem s_X1_draw (hB : okB 75 P) (hk : k < 75) (h : LDr P xl L C k r) (hr : r.2 < 65537) {K : Int32 → Hp → Prop} (hK : ∀ C', Ck k (k + 1) C C' → LDr P xl L C' k (r.1, drw r.2) → K (nI (drw r.2)) (ch 75 P C' τ)) : C_X1_draw l G (d + 1) (P k) (ch 75 P C τ) K := by
  obtain ⟨h1, ⟨f, h2, h3⟩, h4⟩ := h
  refine m_X1_draw (rv_c hB hk (by rw [h1]; exact ⟨_, rfl⟩)) ?_
  have e : 75 * nI r.2 + 74 - (75 * nI r.2 + 74) / 65537 * 65537 = nI (drw r.2) := by
    rw [show (75 : Int32) = nI 75 from rfl, show (74 : Int32) = nI 74 from rfl, show (65537 : Int32) = nI 65537 from rfl, nt_mul, nt_add, nt_rem (by omega) (by decide) (by decide)]
    rfl
  simp only [F_X1_draw, fI_c hB, fZ_c hB, fJ_c hB, fR_c hB, fN_c hB, pF_c hB, gI_c hB, gZ_c hB, gJ_c hB, gN_c hB, sI_c hB, sZ_c hB, sJ_c hB, sN_c hB, aL_c hB, Nat.reduceLT, hk, h1, rR1_0, rN1_0, rP1_0, rI1_1, rP1_1, rI1_2, rP1_2, rI1_3, rP1_3, e, up_a, ↓reduceIte]
  refine ⟨by decide, hK _ (Ck.rf.up (by omega) _) ⟨by rw [up_a, if_pos rfl], ⟨f, by rw [up_a, if_neg (by omega)]; exact h2, h3⟩, h4⟩⟩
theorem s_X1_clear (hB : okB 75 P) (hk : k < 75) (h : LDs P C k) {K : Hp → Prop} (hK : ∀ C', Ck k (k + 1) C C' → (∀ xl L, LDr P xl L C' k ([], 0)) → K (ch 75 P C' τ)) : C_X1_clear l G (d + 1) (P k) (ch 75 P C τ) K := by
  obtain ⟨⟨c, t, s, h1⟩, f, h2⟩ := h
  refine m_X1_clear (rv_c hB hk (by rw [h1]; exact ⟨_, rfl⟩)) ?_
  simp only [F_X1_clear, fI_c hB, fZ_c hB, fJ_c hB, fR_c hB, fN_c hB, pF_c hB, gI_c hB, gZ_c hB, gJ_c hB, gN_c hB, sI_c hB, sZ_c hB, sJ_c hB, sN_c hB, aL_c hB, Nat.reduceLT, hk, h1, rR1_0, rN1_0, rP1_0, rI1_1, rP1_1, rI1_2, rP1_2, rI1_3, rP1_3, up_a, ↓reduceIte]
  refine hK _ (((Ck.rf.up (by omega) _).up (by omega) _).up (by omega) _) fun xl L => ⟨by rw [up_a, if_pos rfl]; rfl, ⟨f, by rw [up_a, if_neg (by omega), up_a, if_neg (by omega), up_a, if_neg (by omega)]; exact h2, fun i n hi => by simp at hi⟩, by simp⟩
theorem s_X1_add0 (hB : okB 75 P) (hk : k < 75) (h : LDr P xl L C k r) {K : Hp → Prop} (hK : K (ch 75 P C τ)) : C_X1_add l G (d + 1) (P k) none (ch 75 P C τ) K := by
  refine m_X1_add (rv_c hB hk (by rw [h.1]; exact ⟨_, rfl⟩)) ?_
  simp only [F_X1_add, F_X1_add_56]
  exact ⟨fun _ => hK, fun b hb => by cases hb⟩
theorem s_X1_add (hB : okB 75 P) (hk : k + 1 < 75) (h : LDr P xl L C k r) {x : Nat} {T : TB} {pa ba m' : Nat} {e : LY} {tu : Option Nat} (hx : outB 75 P (xl x)) (hc : τ (xl x) = some (LYc T m' pa ba e tu)) (hL : L[x]? = some e) (h13 : r.1.length ≤ 13) {K : Hp → Prop} (hK : ∀ C', Ck k (k + 1) C C' → LDr P xl L C' k (r.1 ++ [x], r.2) → K (ch 75 P C' τ)) : C_X1_add l G (d + 1) (P k) (some (xl x)) (ch 75 P C τ) K := by
  have hk0 : k < 75 := by omega
  have n1 : (k = k + 1) = False := by simp
  have n2 : (k + 1 = k) = False := by simp
  obtain ⟨h1, ⟨f, h2, h3⟩, h4⟩ := h
  have hr : ∀ C' : Nat → CE, ch 75 P C' τ (xl x) = some (LYc T m' pa ba e tu) := fun C' => (ch_r hx).trans hc
  have hf : ∀ (C' : Nat → CE) (K : Int32 → Prop), fI (ch 75 P C' τ) (xl x) 2 6 K = K (nI (eS e)) := fun C' K => by rw [fI_at (hr C')]; simp only [rI2_0, rP2_0, rR2_1, rN2_1, rP2_1, rR2_2, rN2_2, rP2_2, rI2_3, rP2_3, rI2_4, rP2_4, rI2_5, rP2_5, rI2_6, rP2_6, rI2_7, rP2_7, rR2_8, rN2_8, rP2_8]
  refine m_X1_add (rv_c hB hk0 (by rw [h1]; exact ⟨_, rfl⟩)) ?_
  simp only [F_X1_add_56, F_X1_add, fI_c hB, fZ_c hB, fJ_c hB, fR_c hB, fN_c hB, pF_c hB, gI_c hB, gZ_c hB, gJ_c hB, gN_c hB, sI_c hB, sZ_c hB, sJ_c hB, sN_c hB, aL_c hB, Nat.reduceLT, hk, hk0, h1, h2, rR1_0, rN1_0, rP1_0, rI1_1, rP1_1, rI1_2, rP1_2, rI1_3, rP1_3, xI_r, xZ_r, xJ_r, xN_r, yI_r, yZ_r, yJ_r, yN_r, cL_i, cL_z, cL_j, cL_r, up_a, n1, n2, ↓reduceIte, Option.some.injEq, reduceCtorEq, false_implies, true_and, forall_eq', hf]
  rw [nt_le (by omega) (by omega)]
  refine ⟨fun hc => absurd hc (nt_neg (by omega)), fun _ => ⟨fun hc => by omega, fun _ => ⟨rv_at (hr C) ⟨_, rfl⟩, (nt_in (by omega)).mpr (by omega), ?_⟩⟩⟩
  refine hK _ (((Ck.rf.up (by omega) _).up (by omega) _).up (by omega) _) ⟨?_, ⟨up_ f r.1.length (some (xl x)), ?_, fun i n hi => ?_⟩, ?_⟩
  · rw [up_a, if_pos rfl, show nI r.1.length + 1 = nI (r.1.length + 1) from nt_add _ 1, nt_or, tkn_snoc, sqN_at hL, List.length_append]
    rfl
  · rw [up_a, if_neg (by omega), up_a, if_neg (by omega), up_a, if_pos rfl, nI_clamp (by omega)]
  · rw [up_a]
    by_cases e1 : i = r.1.length
    · subst e1
      rw [List.getElem?_append_right (Nat.le_refl _), Nat.sub_self] at hi
      cases hi
      rw [if_pos rfl]
    · rw [if_neg e1]
      have := (List.getElem?_eq_some_iff.mp hi).1
      rw [List.length_append, List.length_singleton] at this
      rw [List.getElem?_append_left (by omega)] at hi
      exact h3 i n hi
  · rw [List.length_append, List.length_singleton]; omega
theorem s_X1_dropLatest (hB : okB 75 P) (hk : k + 1 < 75) (h : LDr P xl L C k r) {ls : List Nat} {x : Nat} (hl : r.1 = ls ++ [x]) {T : TB} {pa ba m' : Nat} {e : LY} {tu : Option Nat} (hx : outB 75 P (xl x)) (hc : τ (xl x) = some (LYc T m' pa ba e tu)) (hL : L[x]? = some e) (h0 : tkn L ls &&& eS e = 0) (hlt : tkn L ls < 16384) (hlt2 : eS e < 16384) {K : Hp → Prop} (hK : ∀ C', Ck k (k + 1) C C' → LDr P xl L C' k (ls, r.2) → K (ch 75 P C' τ)) : C_X1_dropLatest l G (d + 3) (P k) (ch 75 P C τ) K := by
  have hk0 : k < 75 := by omega
  have n1 : (k = k + 1) = False := by simp
  have n2 : (k + 1 = k) = False := by simp
  have hh := h
  obtain ⟨h1, ⟨f, h2, h3⟩, h4⟩ := h
  have hf : ∀ (C' : Nat → CE) (K : Int32 → Prop), fI (ch 75 P C' τ) (xl x) 2 6 K = K (nI (eS e)) := fun C' K => by rw [fI_at ((ch_r hx).trans hc)]; simp only [rI2_0, rP2_0, rR2_1, rN2_1, rP2_1, rR2_2, rN2_2, rP2_2, rI2_3, rP2_3, rI2_4, rP2_4, rI2_5, rP2_5, rI2_6, rP2_6, rI2_7, rP2_7, rR2_8, rN2_8, rP2_8]
  refine m_X1_dropLatest (rv_c hB hk0 (by rw [h1]; exact ⟨_, rfl⟩)) ?_
  simp only [F_X1_dropLatest_34, F_X1_dropLatest]
  refine s_X1_latest (d := d) hB hk hh ?_
  have hlast : r.1.getLast?.map xl = some (xl x) := by rw [hl, List.getLast?_append]; rfl
  have hlen : r.1.length = ls.length + 1 := by rw [hl, List.length_append]; rfl
  rw [hlast]
  simp only [fI_c hB, fZ_c hB, fJ_c hB, fR_c hB, fN_c hB, pF_c hB, gI_c hB, gZ_c hB, gJ_c hB, gN_c hB, sI_c hB, sZ_c hB, sJ_c hB, sN_c hB, aL_c hB, Nat.reduceLT, hk, hk0, h1, h2, rR1_0, rN1_0, rP1_0, rI1_1, rP1_1, rI1_2, rP1_2, rI1_3, rP1_3, xI_r, xZ_r, xJ_r, xN_r, yI_r, yZ_r, yJ_r, yN_r, cL_i, cL_z, cL_j, cL_r, up_a, n1, n2, ↓reduceIte, Option.some.injEq, reduceCtorEq, false_implies, true_and, forall_eq', hf]
  refine hK _ ((Ck.rf.up (by omega) _).up (by omega) _) ⟨?_, ⟨f, ?_, fun i n hi => ?_⟩, show ls.length ≤ 14 by omega⟩
  · have e1 : nI (tkn L r.1) &&& (nI (eS e) ^^^ -1) = nI (tkn L ls) := by
      rw [nt_an, hl, tkn_snoc, sqN_at hL]
      congr 1
      apply Nat.eq_of_testBit_eq
      intro i
      have := congrArg (fun z => z.testBit i) h0
      simp only [Nat.testBit_and, Nat.zero_testBit] at this
      rw [an_bit, Nat.testBit_or]
      revert this
      cases (tkn L ls).testBit i <;> cases (eS e).testBit i <;> simp
    have e2 : nI r.1.length - 1 = nI ls.length := by
      rw [hlen, show (1 : Int32) = nI 1 from rfl, nt_sub (by omega) (by omega)]
      rfl
    rw [up_a, if_pos rfl, e1, e2]
  · rw [up_a, if_neg (by omega), up_a, if_neg (by omega)]; exact h2
  · refine h3 i n ?_
    have := (List.getElem?_eq_some_iff.mp hi).1
    rw [hl, List.getElem?_append_left (by omega)]
    exact hi
theorem s_X1_copy (hB : okB 75 P) {k' : Nat} (hk : k + 1 < 75) (hk' : k' + 1 < 75) (hkk : k + 1 < k' ∨ k' + 1 < k) (h : LDr P xl L C k' r) (hs : LDs P C k) (hl : LYS P τ xl r.1) {K : Hp → Prop} (hK : ∀ C', Ck k (k + 1) C C' → LDr P xl L C' k r → K (ch 75 P C' τ)) : C_X1_copy l G (d + 1) (P k) (P k') (ch 75 P C τ) K := by
  have hk0 : k < 75 := by omega
  have hk0' : k' < 75 := by omega
  have n1 : (k = k + 1) = False := by simp
  have n2 : (k + 1 = k) = False := by simp
  have n3 : (k' = k) = False := eq_false (by omega)
  have n4 : (k' = k + 1) = False := eq_false (by omega)
  have n5 : (k' + 1 = k) = False := eq_false (by omega)
  have n6 : (k' + 1 = k + 1) = False := eq_false (by omega)
  obtain ⟨h1, ⟨f, h2, h3⟩, h4⟩ := h
  obtain ⟨⟨c, t, s, g1⟩, g0, g2⟩ := hs
  have e46 : ∀ g, (∀ i n, r.1[i]? = some n → g i = some (xl n)) → F_X1_copy_46 l G d (P k) (P k') (ch 75 P (up_ C (k + 1) (rA 3 14 g)) τ) K := by
    intro g hg
    simp only [F_X1_copy_46, fI_c hB, fZ_c hB, fJ_c hB, fR_c hB, fN_c hB, pF_c hB, gI_c hB, gZ_c hB, gJ_c hB, gN_c hB, sI_c hB, sZ_c hB, sJ_c hB, sN_c hB, aL_c hB, Nat.reduceLT, hk, hk0, hk', hk0', h1, h2, g1, g2, rR1_0, rN1_0, rP1_0, rI1_1, rP1_1, rI1_2, rP1_2, rI1_3, rP1_3, up_a, n1, n2, n3, n4, n5, n6, ↓reduceIte]
    refine hK _ ((((Ck.rf.up (by omega) _).up (by omega) _).up (by omega) _).up (by omega) _) ⟨?_, ⟨g, ?_, hg⟩, h4⟩
    · rw [up_a, if_pos rfl]
    · simp only [up_a, n2, ↓reduceIte]
  have hz : ∀ q i g, i + q = r.1.length → (∀ j n, j < i → r.1[j]? = some n → g j = some (xl n)) → Z_X1_copy_2 l G d K (q + 1) (P k) (P k') (nI i) (ch 75 P (up_ C (k + 1) (rA 3 14 g)) τ) := by
    intro q
    induction q with
    | zero =>
      intro i g hi hg
      simp only [Z_X1_copy_2, F_X1_copy_2, fI_c hB, fZ_c hB, fJ_c hB, fR_c hB, fN_c hB, pF_c hB, gI_c hB, gZ_c hB, gJ_c hB, gN_c hB, sI_c hB, sZ_c hB, sJ_c hB, sN_c hB, aL_c hB, Nat.reduceLT, hk, hk0, hk', hk0', h1, h2, g1, g2, rR1_0, rN1_0, rP1_0, rI1_1, rP1_1, rI1_2, rP1_2, rI1_3, rP1_3, xI_r, xZ_r, xJ_r, xN_r, yI_r, yZ_r, yJ_r, yN_r, cL_i, cL_z, cL_j, cL_r, up_a, n1, n2, n3, n4, n5, n6, ↓reduceIte]
      rw [nt_le (by omega) (by omega)]
      exact ⟨fun _ => e46 g fun i n hn => hg i n (by have := (List.getElem?_eq_some_iff.mp hn).1; omega) hn, fun hc => absurd (by omega) hc⟩
    | succ q ih =>
      intro i g hi hg
      obtain ⟨x, hx⟩ : ∃ x, r.1[i]? = some x := ⟨_, List.getElem?_eq_getElem (by omega)⟩
      obtain ⟨x1, x2⟩ := hl x (List.mem_of_getElem? hx)
      rw [show q + 1 + 1 = (q + 1) + 1 from rfl, Z_X1_copy_2]
      simp only [F_X1_copy_2, fI_c hB, fZ_c hB, fJ_c hB, fR_c hB, fN_c hB, pF_c hB, gI_c hB, gZ_c hB, gJ_c hB, gN_c hB, sI_c hB, sZ_c hB, sJ_c hB, sN_c hB, aL_c hB, Nat.reduceLT, hk, hk0, hk', hk0', h1, h2, g1, g2, rR1_0, rN1_0, rP1_0, rI1_1, rP1_1, rI1_2, rP1_2, rI1_3, rP1_3, xI_r, xZ_r, xJ_r, xN_r, yI_r, yZ_r, yJ_r, yN_r, cL_i, cL_z, cL_j, cL_r, up_a, n1, n2, n3, n4, n5, n6, ↓reduceIte]
      rw [nt_le (by omega) (by omega), nt_le (by omega) (by omega)]
      refine ⟨fun hc => by omega, fun _ => ⟨fun hc => by omega, fun _ => ⟨fun hc => by omega, fun _ => ⟨xl x, (nt_in (by omega)).mpr (by omega), ?_, rv_out x1 x2, (nt_in (by omega)).mpr (by omega), ?_⟩⟩⟩⟩
      · rw [nI_clamp (by omega)]; exact h3 i x hx
      · rw [nI_clamp (by omega), show nI i + 1 = nI (i + 1) from nt_add i 1, show up_ (up_ C (k + 1) (rA 3 14 g)) (k + 1) (rA 3 14 (up_ g i (some (xl x)))) = up_ C (k + 1) (rA 3 14 (up_ g i (some (xl x)))) from funext fun z => by simp only [up_a]; split <;> rfl]
        refine ih (i + 1) _ (by omega) fun j n hj hn => ?_
        rw [up_a]
        by_cases e1 : j = i
        · subst e1
          rw [hx] at hn
          cases hn
          rw [if_pos rfl]
        · rw [if_neg e1]
          exact hg j n (by omega) hn
  refine m_X1_copy (rv_c hB hk0 (by rw [g1]; exact ⟨_, rfl⟩)) ?_
  simp only [F_X1_copy]
  refine ⟨r.1.length + 1, ?_⟩
  have := hz r.1.length 0 g0 (by omega) fun j n hj => absurd hj (by omega)
  rwa [show up_ C (k + 1) (rA 3 14 g0) = C from funext fun z => by simp only [up_a]; split <;> simp_all] at this
end LAID
