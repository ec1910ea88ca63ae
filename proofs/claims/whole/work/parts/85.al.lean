/-! BUILDING a table: what stays (Kp), lists that grow -/
theorem hset2 (σ : Hp) (a : Nat) (c c' : CE) : hset (hset σ a c) a c' = hset σ a c' := by
  funext q
  by_cases h : q = a
  · subst h; rw [hset_eq, hset_eq]
  · rw [hset_ne h, hset_ne h, hset_ne h]
section HS
variable {σ : Hp} {a b t j : Nat} {c : CE}
theorem fI_hs {K : Int32 → Prop} : fI (hset σ a c) a t j K = cI c t j K := fI_at (hset_eq ..)
theorem fZ_hs {K : Bool → Prop} : fZ (hset σ a c) a t j K = cZ c t j K := fZ_at (hset_eq ..)
theorem fJ_hs {K : Int64 → Prop} : fJ (hset σ a c) a t j K = cJ c t j K := fJ_at (hset_eq ..)
theorem fR_hs {K : Option Nat → Prop} : fR (hset σ a c) a t j K = cR c t j K := fR_at (hset_eq ..)
theorem fN_hs {K : Nat → Prop} : fN (hset σ a c) a t j K = cN c t j K := fN_at (hset_eq ..)
theorem pF_hs {v : AV} {K : Hp → Prop} : pF (hset σ a c) a t j v K = cP c t j v fun c' => K (hset σ a c') := by
  rw [pF_at (hset_eq ..)]
  simp only [hset2]
theorem hs_ne {q : Nat} {e : CE} (h : σ q = some e) (hn : ¬ σ a = some e) : hset σ a c q = some e := by
  rw [hset_ne fun e' => hn (by rw [← e']; exact h), h]
theorem hs_new {q : Nat} {e : CE} (h : σ q = some e) (ha : σ a = none) : hset σ a c q = some e := hs_ne h (by rw [ha]; simp)
end HS
/-- all that was there is there, and as it was, but where S says -/
def Kp (S : Nat → Prop) (σ σ' : Hp) : Prop := (∀ q, σ q ≠ none → σ' q ≠ none) ∧ ∀ q, σ q ≠ none → ¬ S q → σ' q = σ q
section KP
variable {S S' : Nat → Prop} {σ σ' σ'' : Hp} {a : Nat} {c : CE}
theorem Kp.rf : Kp S σ σ := ⟨fun _ h => h, fun _ _ _ => rfl⟩
theorem Kp.tr (h : Kp S σ σ') (h' : Kp S σ' σ'') : Kp S σ σ'' := ⟨fun q hq => h'.1 q (h.1 q hq), fun q hq hs => (h'.2 q (h.1 q hq) hs).trans (h.2 q hq hs)⟩
theorem Kp.tr2 (h : Kp S σ σ') (h' : Kp S' σ' σ'') (hS : ∀ q, σ q ≠ none → S' q → S q) : Kp S σ σ'' := ⟨fun q hq => h'.1 q (h.1 q hq), fun q hq hs => (h'.2 q (h.1 q hq) fun e => hs (hS q hq e)).trans (h.2 q hq hs)⟩
theorem Kp.mo (h : Kp S σ σ') (hS : ∀ q, σ q ≠ none → S q → S' q) : Kp S' σ σ' := ⟨h.1, fun q hq hs => h.2 q hq fun e => hs (hS q hq e)⟩
theorem Kp.sset (h : Kp S σ σ') (hS : σ a ≠ none → S a) : Kp S σ (hset σ' a c) := by
  refine ⟨fun q hq => ?_, fun q hq hs => (hset_ne fun e => hs (by subst e; exact hS hq)).trans (h.2 q hq hs)⟩
  by_cases e : q = a
  · subst e; rw [hset_eq]; simp
  · rw [hset_ne e]; exact h.1 q hq
theorem Kp.set (hS : σ a ≠ none → S a) : Kp S σ (hset σ a c) := Kp.sset Kp.rf hS
theorem Kp.at (h : Kp S σ σ') {q : Nat} {e : CE} (hq : σ q = some e) (hs : ¬ S q) : σ' q = some e := (h.2 q (by rw [hq]; simp) hs).trans hq
theorem Kp.fr (h : Kp S σ σ') {q : Nat} (hq : σ' q = none) : σ q = none := by
  cases e : σ q with
  | none => rfl
  | some c => exact absurd hq (h.1 q (by rw [e]; simp))
end KP
/-- room of a list of n -/
def cpN (n : Nat) : Nat := if n = 0 then 0 else if n ≤ 10 then 10 else if n ≤ 15 then 15 else if n ≤ 22 then 22 else if n ≤ 33 then 33 else if n ≤ 49 then 49 else if n ≤ 73 then 73 else if n ≤ 109 then 109 else if n ≤ 163 then 163 else 244
def cst (n : Nat) : Nat := if n = cpN n then cpN (n + 1) else 0
/-- what growing to n has cost -/
def bdS (n : Nat) : Nat := if n = 0 then 0 else if n ≤ 10 then 10 else if n ≤ 15 then 25 else if n ≤ 22 then 47 else if n ≤ 33 then 80 else if n ≤ 49 then 129 else if n ≤ 73 then 202 else if n ≤ 109 then 311 else if n ≤ 163 then 474 else 718
theorem cp_all : ((List.range 240).all fun n => Nat.ble n (cpN n) && (Nat.beq (bdS (n + 1)) (bdS n + cst n) && (Nat.ble (n + 1) (cpN (n + 1)) && (if Nat.beq n (cpN n) then (Nat.beq n 0 || Nat.beq (cpN (n + 1)) (n + (if Nat.ble (n / 2) 1 then 1 else n / 2))) else Nat.beq (cpN (n + 1)) (cpN n))))) = true := by decide +kernel
theorem cp_of {n : Nat} (hn : n < 240) : n ≤ cpN n ∧ bdS (n + 1) = bdS n + cst n ∧ n + 1 ≤ cpN (n + 1) ∧ (n = cpN n → n = 0 ∨ cpN (n + 1) = n + (if n / 2 ≤ 1 then 1 else n / 2)) ∧ (n ≠ cpN n → cpN (n + 1) = cpN n) := by
  have h := List.all_eq_true.mp cp_all n (List.mem_range.mpr hn)
  simp only [Bool.and_eq_true] at h
  obtain ⟨h1, h2, h3, h4⟩ := h
  refine ⟨Nat.le_of_ble_eq_true h1, Nat.eq_of_beq_eq_true h2, Nat.le_of_ble_eq_true h3, fun e => ?_, fun e => ?_⟩
  · rw [if_pos (by rw [← e]; exact Nat.beq_refl n), Bool.or_eq_true] at h4
    rcases h4 with h4 | h4
    · exact Or.inl (Nat.eq_of_beq_eq_true h4)
    · refine Or.inr ((Nat.eq_of_beq_eq_true h4).trans ?_)
      congr 1
      by_cases h5 : n / 2 ≤ 1
      · rw [if_pos h5, if_pos (Nat.ble_eq_true_of_le h5)]
      · rw [if_neg h5, if_neg (by intro hc; exact h5 (Nat.le_of_ble_eq_true hc))]
  · rw [if_neg (by intro hc; exact e (Nat.eq_of_beq_eq_true hc))] at h4
    exact Nat.eq_of_beq_eq_true h4
theorem cpN_le (n : Nat) : cpN n ≤ 244 := by
  unfold cpN
  (repeat' split) <;> omega
/-- a list that may grow: at a, its items at da, n of them, f -/
def AL (G : GG) (σ : Hp) (a da n : Nat) (f : Nat → Nat) : Prop := ∃ md g, σ a = some (O13 md (some da) (nI n)) ∧ σ da = some (rA 6 (cpN n) g) ∧ (n = 0 ↔ da = gE G) ∧ (∀ i, i < n → g i = some (f i)) ∧ (∀ i y, g i = some y → i < n) ∧ ∀ i, i < n → ∃ t, rv σ (f i) t ∧ (t = 0 ∨ t = 5 ∨ t = 2)
section AL
variable {l : Launch} {G : GG} {d mc ms : Nat} {σ : Hp} {a da n : Nat} {f : Nat → Nat}
theorem AL.kp (h : AL G σ a da n f) {S : Nat → Prop} {σ' : Hp} (hk : Kp S σ σ') (h1 : ¬ S a) (h2 : ¬ S da) (h3 : ∀ i, i < n → ¬ S (f i)) : AL G σ' a da n f := by
  obtain ⟨md, g, a1, a2, a3, a4, a5, a6⟩ := h
  exact ⟨md, g, hk.at a1 h1, hk.at a2 h2, a3, a4, a5, fun i hi => by
    obtain ⟨t, ⟨fs, ht⟩, ht2⟩ := a6 i hi
    exact ⟨t, ⟨fs, hk.at ht (h3 i hi)⟩, ht2⟩⟩
theorem AL.cg (h : AL G σ a da n f) {f' : Nat → Nat} (hf : ∀ i, i < n → f' i = f i) : AL G σ a da n f' := by
  obtain ⟨md, g, a1, a2, a3, a4, a5, a6⟩ := h
  exact ⟨md, g, a1, a2, a3, fun i hi => by rw [hf i hi]; exact a4 i hi, a5, fun i hi => by rw [hf i hi]; exact a6 i hi⟩
theorem AL.lst (h : AL G σ a da n f) (hn : n ≤ 240) {Q : Nat → Prop} (hQ : Q a ∧ Q da) : LST Q σ a n f := by
  obtain ⟨md, g, a1, a2, a3, a4, a5, a6⟩ := h
  refine ⟨hQ.1, md, da, cpN n, g, a1, hQ.2, a2, ?_, Nat.lt_of_le_of_lt (cpN_le n) (by decide), a4⟩
  rcases Nat.lt_or_eq_of_le hn with h | h
  · exact (cp_of h).1
  · subst h; decide
theorem AL.not_da (h : AL G σ a da n f) {x t : Nat} (hx : rv σ x t) : x ≠ da := by
  obtain ⟨md, g, a1, a2, a3, a4, a5, a6⟩ := h
  obtain ⟨fs, hx⟩ := hx
  intro e
  rw [e, a2] at hx
  cases hx
theorem AL.not_a (h : AL G σ a da n f) {x t : Nat} (hx : rv σ x t) (ht : t = 0 ∨ t = 5 ∨ t = 2) : x ≠ a := by
  obtain ⟨md, g, a1, a2, a3, a4, a5, a6⟩ := h
  obtain ⟨fs, hx⟩ := hx
  intro e
  rw [e, a1] at hx
  cases hx
  omega
theorem AL.ne (h : AL G σ a da n f) : da ≠ a := by
  obtain ⟨md, g, a1, a2, a3⟩ := h
  intro e
  rw [e, a1] at a2
  cases a2
theorem s_Jinit {x y : Option Nat} {md s : Int32} (h : σ a = some (O13 md y s)) {K : Hp → Prop} (hK : K (hset σ a (O13 0 (some (gE G)) s))) : C_Jx4a65c_init_da8c8 l G (d + 3) a σ K := by
  refine m_Jx4a65c_init_da8c8 ?_
  simp only [F_Jx4a65c_init_da8c8]
  refine m_Jxc12de_init_da8c8 ?_
  simp only [F_Jxc12de_init_da8c8]
  refine m_Jxa1e45_init_da8c8 ?_
  simp only [F_Jxa1e45_init_da8c8, pF_at h, rI13_0, rP13_0, rR13_1, rN13_1, rP13_1, rI13_2, rP13_2, pF_hs]
  exact hK
theorem s_copyOf {q n : Nat} {g : Nat → Option Nat} (h : σ q = some (rA 6 n g)) (h10 : 10 ≤ n) {m : Nat} (hm : n ≤ m) (hm2 : m < 1000) (hg : ∀ i y, g i = some y → i < n → ∃ t, rv σ y t ∧ (t = 0 ∨ t = 5 ∨ t = 2)) (hmc : 1 ≤ mc) (hms : m ≤ ms) {K : Nat → Hp → Prop} (hK : ∀ z, σ z = none → K z (hset σ z (rA 6 m fun i => if i < n then g i else none))) : C_J7_copyOf_1904c l G (d + 2) mc ms q (nI m) σ K := by
  refine m_J7_copyOf_1904c ?_
  simp only [F_J7_copyOf_1904c]
  refine ⟨⟨_, _, h⟩, mc, ms, Nat.le_refl _, Nat.le_refl _, ?_⟩
  refine m_J7_copyOf_6403c ?_
  simp only [F_J7_copyOf_6403c]
  refine ⟨fun hc => hc trivial, fun _ => ⟨m, rfl, by omega, hmc, hms, fun z hz => ?_⟩⟩
  have hq : hset σ z (rA 6 m fun _ => none) q = some (rA 6 n g) := hs_new h hz
  simp only [F_J7_copyOf_6403c_24, aL_r hq]
  rw [if_neg (by rw [nt_lt (by omega) (by omega)]; omega)]
  refine ⟨n, g, m, _, hq, hset_eq .., ⟨by omega, by omega⟩, by decide, by decide, nt_neg (by omega), ?_, ?_, fun i hi y hy => ?_, ?_⟩
  · rw [nI_clamp (show n < 2 ^ 31 by omega)]; exact Nat.le_of_eq (Nat.zero_add n)
  · rw [nI_clamp (show n < 2 ^ 31 by omega)]; exact Nat.le_trans (Nat.le_of_eq (Nat.zero_add n)) hm
  · rw [nI_clamp (show n < 2 ^ 31 by omega)] at hi
    rw [show (0 : Int32).toNatClampNeg + i = i from Nat.zero_add i] at hy
    obtain ⟨t, ⟨fs, ht⟩, ht2⟩ := hg i y hy hi
    exact ⟨t, fs, hs_new ht hz, ht2⟩
  · rw [hset2]
    have hf : (va_cpy g (fun _ => none) (0 : Int32).toNatClampNeg (0 : Int32).toNatClampNeg (nI n).toNatClampNeg) = fun i => if i < n then g i else none := by
      funext i
      rw [nI_clamp (show n < 2 ^ 31 by omega)]
      simp only [va_cpy, show (0 : Int32).toNatClampNeg = 0 from rfl]
      by_cases hi : i < n
      · simp [hi]
      · simp [hi]
    rw [hf]
    exact hK z hz
theorem s_add (h : AL G σ a da n f) (hE : σ (gE G) ≠ none) (hn : n < 240) {x t : Nat} (hx : rv σ x t) (ht : t = 0 ∨ t = 5 ∨ t = 2) (hmc : 1 ≤ mc) (hms : cst n ≤ ms) {K : Bool → Hp → Prop} (hK : ∀ σ' da', Kp (fun q => q = a ∨ (q = da ∧ 0 < n)) σ σ' → (da' = da ∧ 0 < n ∨ σ da' = none) → AL G σ' a da' (n + 1) (fun i => if i = n then x else f i) → K true σ') : C_Jx4a65c_add_9ea2d l G (d + 8) mc ms a x σ K := by
  obtain ⟨c1, c2, c3, c4, c5⟩ := cp_of hn
  have hcl := cpN_le n
  have hcl1 := cpN_le (n + 1)
  have hxa := h.not_a hx ht
  have hxd := h.not_da hx
  have hda := h.ne
  have hh := h
  obtain ⟨md, g, a1, a2, a3, a4, a5, a6⟩ := h
  have hfa : ∀ i, i < n → f i ≠ a := fun i hi => by
    obtain ⟨t, ht, ht2⟩ := a6 i hi
    exact hh.not_a ht ht2
  have hfd : ∀ i, i < n → f i ≠ da := fun i hi => by
    obtain ⟨t, ht, ht2⟩ := a6 i hi
    exact hh.not_da ht
  refine m_Jx4a65c_add_9ea2d (rv_at a1 ⟨_, rfl⟩) ?_
  simp only [F_Jx4a65c_add_9ea2d, fI_at (a1), fZ_at (a1), fJ_at (a1), fR_at (a1), fN_at (a1), pF_at (a1), rI13_0, rP13_0, rR13_1, rN13_1, rP13_1, rI13_2, rP13_2, fN_hs, fI_hs]
  refine ⟨mc, ms, Nat.le_refl _, Nat.le_refl _, ?_⟩
  have h1 : hset σ a (O13 (md + 1) (some da) (nI n)) da = some (rA 6 (cpN n) g) := by rw [hset_ne hda]; exact a2
  have fin : ∀ σ2 d2 g2 md2 bc bs, Kp (fun q => q = a ∨ (q = da ∧ 0 < n)) σ σ2 → σ2 a = some (O13 md2 (some d2) (nI n)) → σ2 d2 = some (rA 6 (cpN (n + 1)) g2) → (d2 = da ∧ 0 < n ∨ σ d2 = none) → (∀ i, i < n → g2 i = some (f i)) → (∀ i y, g2 i = some y → i < n) → F_Jx4a65c_add_72be8_11 l G (d + 6) a x d2 (nI n) σ2 bc bs fun σ' => K true σ' := by
    intro σ2 d2 g2 md2 bc bs k1 k2 k3 k4 k5 k6
    have hrv : ∀ z s, rv σ z s → z ≠ a → z ≠ da → rv σ2 z s := fun z s ⟨fs, hz⟩ hza hzd => ⟨fs, k1.at hz fun e => e.elim hza fun e => hzd e.1⟩
    have hd2a : d2 ≠ a := fun e => by rw [e, k2] at k3; cases k3
    have hx2 : x ≠ d2 := fun e => by
      obtain ⟨fs, hx'⟩ := hrv x t hx hxa hxd
      rw [e, k3] at hx'; cases hx'
    simp only [F_Jx4a65c_add_72be8_11]
    refine ⟨cpN (n + 1), g2, t, k3, hrv x t hx hxa hxd, ht, (nt_in (by omega)).mpr (by omega), ?_⟩
    rw [nI_clamp (show n < 2 ^ 31 by omega)]
    have k2' : hset σ2 d2 (rA 6 (cpN (n + 1)) (up_ g2 n (some x))) a = some (O13 md2 (some d2) (nI n)) := by rw [hset_ne (Ne.symm hd2a)]; exact k2
    simp only [pF_at k2', rI13_0, rP13_0, rR13_1, rN13_1, rP13_1, rI13_2, rP13_2, show nI n + 1 = nI (n + 1) from nt_add n 1]
    refine hK _ d2 ?_ k4 ⟨md2, up_ g2 n (some x), hset_eq .., ?_, ⟨fun e => by omega, fun e => ?_⟩, fun i hi => ?_, fun i y hy => ?_, fun i hi => ?_⟩
    · refine (k1.sset (a := d2) fun hq => ?_).sset fun _ => Or.inl rfl
      rcases k4 with ⟨e, e2⟩ | e
      · exact Or.inr ⟨e, e2⟩
      · exact absurd e hq
    · rw [hset_ne hd2a, hset_eq]
    · rcases k4 with ⟨e1, e2⟩ | e1
      · exact absurd (a3.mpr (e1.symm.trans e)) (by omega)
      · rw [e] at e1; exact absurd e1 hE
    · by_cases e : i = n
      · subst e; dsimp only; rw [up_eq, if_pos rfl]
      · dsimp only; rw [up_ne e, if_neg e]; exact k5 i (by omega)
    · by_cases e : i = n
      · omega
      · rw [up_ne e] at hy
        have := k6 i y hy
        omega
    · have hz : ∀ z s, rv σ z s → z ≠ a → z ≠ da → z ≠ d2 → rv (hset (hset σ2 d2 (rA 6 (cpN (n + 1)) (up_ g2 n (some x)))) a (O13 md2 (some d2) (nI (n + 1)))) z s := fun z s h1 h2 h3 h4 => by
        obtain ⟨fs, h5⟩ := hrv z s h1 h2 h3
        exact ⟨fs, by rw [hset_ne h2, hset_ne h4]; exact h5⟩
      by_cases e : i = n
      · dsimp only; rw [if_pos e]; exact ⟨t, hz x t hx hxa hxd hx2, ht⟩
      · dsimp only; rw [if_neg e]
        obtain ⟨s, hs, hs2⟩ := a6 i (by omega)
        refine ⟨s, hz _ s hs (hfa i (by omega)) (hfd i (by omega)) fun e2 => ?_, hs2⟩
        obtain ⟨fs, h5⟩ := hrv _ s hs (hfa i (by omega)) (hfd i (by omega))
        rw [e2, k3] at h5; cases h5
  refine m_Jx4a65c_add_72be8 (rv_at (hset_eq ..) ⟨_, rfl⟩) ?_
  simp only [F_Jx4a65c_add_72be8, aL_r h1]
  rw [nt_eq (by omega) (by omega)]
  refine ⟨fun e => ?_, fun e => ⟨mc, ms, Nat.le_refl _, Nat.le_refl _, ?_⟩⟩
  · have h0 : 0 < n := Nat.pos_of_ne_zero fun e0 => e (by rw [e0]; rfl)
    refine fin _ da g (md + 1) mc ms (Kp.set fun _ => Or.inl rfl) (hset_eq ..) ?_ (Or.inl ⟨rfl, h0⟩) a4 a5
    rw [c5 e]; exact h1
  · refine m_Jx4a65c_grow_d5877 (rv_at (hset_eq ..) ⟨_, rfl⟩) ?_
    simp only [F_Jx4a65c_grow_d5877, fI_hs, rI13_0, rP13_0, rR13_1, rN13_1, rP13_1, rI13_2, rP13_2]
    refine ⟨mc, ms, Nat.le_refl _, Nat.le_refl _, ?_⟩
    have hcs : cst n = cpN (n + 1) := if_pos e
    refine m_Jx4a65c_grow_92f84 (rv_at (hset_eq ..) ⟨_, rfl⟩) ?_
    simp only [F_Jx4a65c_grow_92f84, fN_hs, rI13_0, rP13_0, rR13_1, rN13_1, rP13_1, rI13_2, rP13_2, aL_r h1, show nI n + 1 = nI (n + 1) from nt_add n 1]
    rw [show (0 : Int32) = nI 0 from rfl, nt_lt (by decide) (by omega)]
    refine ⟨fun h0 => ?_, fun h0 => ?_⟩
    · rcases c4 e with c4 | c4
      · omega
      rw [← e] at h1 ⊢
      have h10 : 10 ≤ n := by
        revert e h0
        unfold cpN
        (repeat' split) <;> omega
      simp only [F_Jx4a65c_grow_92f84_20]
      refine m_J8_newLength_cabcc ?_
      have e1 : nI (n + 1) - nI n = nI 1 := by rw [nt_sub (by omega) (by omega)]; congr 1; omega
      have e2 : nI n >>> ((1 : Int32) &&& 31) = nI (n / 2) := by rw [show (1 : Int32) &&& 31 = nI 1 by decide, nt_shr (by omega) (by decide)]
      have e3 : nI n + (if nI (n + 1) - nI n < nI n >>> ((1 : Int32) &&& 31) then nI n >>> ((1 : Int32) &&& 31) else nI (n + 1) - nI n) = nI (cpN (n + 1)) := by
        rw [e1, e2, if_pos (by rw [nt_lt (by decide) (by omega)]; omega), nt_add, c4, if_neg (by omega)]
      simp only [F_J8_newLength_cabcc, e3]
      rw [show (0 : Int32) = nI 0 from rfl, show (2147483639 : Int32) = nI 2147483639 from rfl, nt_le (by omega) (by decide), nt_lt (by decide) (by omega)]
      refine ⟨fun hc => by omega, fun _ => ⟨fun hc => by omega, fun _ => ?_⟩⟩
      simp only [fN_hs, rI13_0, rP13_0, rR13_1, rN13_1, rP13_1, rI13_2, rP13_2]
      refine ⟨mc, ms, Nat.le_refl _, Nat.le_refl _, ?_⟩
      refine s_copyOf (d := d + 2) h1 h10 (by omega) (by omega) (fun i y hy hi => ?_) hmc (by omega) fun z hz => ?_
      · have hy2 := a4 i hi
        rw [hy] at hy2
        cases hy2
        obtain ⟨s, ⟨fs, hs⟩, hs2⟩ := a6 i hi
        exact ⟨s, ⟨fs, by rw [hset_ne (hfa i hi)]; exact hs⟩, hs2⟩
      · have hza : z ≠ a := fun e => by rw [e, hset_eq] at hz; cases hz
        rw [hset_ne hza] at hz
        have k2 : hset (hset σ a (O13 (md + 1) (some da) (nI n))) z (rA 6 (cpN (n + 1)) fun i => if i < n then g i else none) a = some (O13 (md + 1) (some da) (nI n)) := by rw [hset_ne (Ne.symm hza), hset_eq]
        simp only [pF_at k2, rI13_0, rP13_0, rR13_1, rN13_1, rP13_1, rI13_2, rP13_2]
        refine fin _ z _ (md + 1) _ _ (((Kp.set fun _ => Or.inl rfl).sset fun hq => absurd hz hq).sset fun _ => Or.inl rfl) (hset_eq ..) (by rw [hset_ne hza, hset_eq]) (Or.inr hz) (fun i hi => by rw [if_pos hi]; exact a4 i hi) fun i y hy => ?_
        by_cases hi : i < n
        · exact hi
        · rw [if_neg hi] at hy; cases hy
    · have h0' : n = 0 := by omega
      have hdE := a3.mp h0'
      refine ⟨fun _ => ?_, fun hc => absurd (by rw [hdE]) hc⟩
      rw [if_neg (by rw [show (10 : Int32) = nI 10 from rfl, nt_lt (by decide) (by omega)]; omega)]
      subst h0'
      refine ⟨10, rfl, by decide, hmc, Nat.le_trans (by decide) hms, fun z hz => ?_⟩
      have hza : z ≠ a := fun e => by rw [e, hset_eq] at hz; cases hz
      rw [hset_ne hza] at hz
      have k2 : hset (hset σ a (O13 (md + 1) (some da) (nI 0))) z (rA 6 10 fun _ => none) a = some (O13 (md + 1) (some da) (nI 0)) := by rw [hset_ne (Ne.symm hza), hset_eq]
      simp only [pF_at k2, rI13_0, rP13_0, rR13_1, rN13_1, rP13_1, rI13_2, rP13_2]
      exact fin _ z _ (md + 1) _ _ (((Kp.set fun _ => Or.inl rfl).sset fun hq => absurd hz hq).sset fun _ => Or.inl rfl) (hset_eq ..) (by rw [hset_ne hza, hset_eq]; rfl) (Or.inr hz) (fun i hi => by omega) fun i y hy => by cases hy
end AL
