/-! what is answered stays what it should be: VZ -/
section VZP
variable {Z : ST} {T : TB}
theorem VZ.vt (h : VZ Z) (hT : zT Z = some T) : VT0 T ∧ VRo T (zW Z) ∧ (∀ u ∈ zU Z, VRo T u) ∧ ∀ u ∈ zI Z, VRo T u := by
  have h1 := h.2.2.2.2.2.2.2
  rw [hT] at h1
  exact h1
theorem VZ.zaa (h : VZ Z) (hT : zT Z = some T) {w : RO} {U I : List RO} (hw : VRo T w) (hU : ∀ u ∈ U, VRo T u) (hI : ∀ u ∈ I, VRo T u) (h1 : U.length ≤ 16) (h2 : I.length ≤ 3) : VZ (za Z w U I) := by
  refine ⟨h.1, h.2.1, h.2.2.1, h.2.2.2.1, h.2.2.2.2.1, h1, h2, ?_⟩
  show (match zT Z with
  | none => w = ([], 0) ∧ U = [] ∧ I = []
  | some T => VT0 T ∧ VRo T w ∧ (∀ u ∈ U, VRo T u) ∧ ∀ u ∈ I, VRo T u)
  rw [hT]
  exact ⟨(h.vt hT).1, hw, hU, hI⟩
theorem keepU_ok (h : VZ Z) (hT : zT Z = some T) : (∀ u ∈ keepU Z, VRo T u) ∧ (keepU Z).length ≤ 16 := by
  obtain ⟨h1, h2, h3, h4⟩ := h.vt hT
  refine ⟨fun u hu => ?_, ?_⟩
  · have := List.mem_of_mem_take hu
    rcases List.mem_cons.mp this with e | e
    · rw [e]; exact h2
    · exact h3 u e
  · unfold keepU
    rw [List.length_take]
    omega
theorem VZ.put (h : VZ Z) (hT : zT Z = some T) {i sd : Nat} {e : LY} (he : (allL T)[i]? = some e) (hm : myE T e (ztk Z T) (zwh Z) = true) (hsd : sd < 65537) : VZ (zt (putZ Z i sd) 0) := by
  obtain ⟨h1, h2, h3, h4⟩ := h.vt hT
  obtain ⟨k1, k2⟩ := keepU_ok h hT
  exact (h.zaa hT ⟨h2.1.snoc he (frE_0 (myE_fr hm)), hsd⟩ k1 h4 k2 h.2.2.2.2.2.2.1).tr (by decide)
theorem v_puts (h : VZ Z) (v : Int32) : VZ (n_puts Z v).2 := by
  unfold n_puts
  cases hT : zT Z with
  | none => exact h.tr (by decide)
  | some T =>
    simp only
    cases hi : ix v (allL T).length with
    | none => exact h.tr (by decide)
    | some i =>
      simp only
      cases he : (allL T)[i]? with
      | none => exact h.tr (by decide)
      | some e =>
        simp only
        by_cases hm : myE T e (ztk Z T) (zwh Z) = true
        · rw [if_pos hm]; exact h.put hT he hm (h.vt hT).2.1.2
        · rw [if_neg hm]; exact h.tr (by decide)
theorem GD.dl {L : List LY} {ls : List Nat} (h : GD L ls) : GD L ls.dropLast := by
  rw [List.dropLast_eq_take]
  exact h.take _
theorem v_takes (h : VZ Z) : VZ (n_takes Z).2 := by
  unfold n_takes
  cases hT : zT Z with
  | none => exact h.tr (by decide)
  | some T =>
    simp only
    obtain ⟨h1, h2, h3, h4⟩ := h.vt hT
    obtain ⟨k1, k2⟩ := keepU_ok h hT
    cases hl : (zW Z).1.getLast? with
    | none => exact h.tr (by decide)
    | some n => exact (h.zaa hT (w := ((zW Z).1.dropLast, (zW Z).2)) ⟨h2.1.dl, h2.2⟩ k1 h4 k2 h.2.2.2.2.2.2.1).tr (by decide)
theorem v_plays (h : VZ Z) (p : Int32) : VZ (n_plays Z p).2 := by
  unfold n_plays
  cases hT : zT Z with
  | none => exact h.tr (by decide)
  | some T =>
    simp only
    by_cases hp : inR p 0 4 = true
    · rw [if_pos hp]
      have hsd := chs_sd (T := T) (L := allL T) (p := p.toNatClampNeg) (tk := ztk Z T) (who := zwh Z) (last := lastO (zW Z)) (h.vt hT).2.1.2
      cases hm : mvs T (allL T) (ztk Z T) (zwh Z) with
      | nil =>
        have := chs_none (p := p.toNatClampNeg) (last := lastO (zW Z)) (s := (zW Z).2) hm
        unfold chZ
        rw [this]
        exact h.tr (by decide)
      | cons y ys =>
        obtain ⟨x, e, f1, f2, f3⟩ := chs_ok (T := T) (L := allL T) (p := p.toNatClampNeg) (tk := ztk Z T) (who := zwh Z) (last := lastO (zW Z)) (s := (zW Z).2) (by rw [hm]; simp)
        unfold chZ
        generalize chs T (allL T) p.toNatClampNeg (ztk Z T) (zwh Z) (lastO (zW Z)) (zW Z).2 = o at f1 hsd ⊢
        obtain ⟨o1, sd⟩ := o
        simp only at f1 hsd
        subst f1
        exact h.put hT f2 f3 hsd
    · rw [if_neg hp]; exact h.tr (by decide)
theorem v_seed (h : VZ Z) (v : Int32) : VZ (n_seed Z v).2 := by
  unfold n_seed
  cases hT : zT Z with
  | none => exact h.tr (by decide)
  | some T =>
    simp only
    obtain ⟨h1, h2, h3, h4⟩ := h.vt hT
    by_cases hp : inR v 0 65536 = true
    · rw [if_pos hp]
      obtain ⟨n, rfl, -, hn⟩ := inR_some (by decide) (by decide) hp
      rw [nI_clamp (by omega)]
      exact (h.zaa hT (w := ((zW Z).1, n)) ⟨h2.1, by show n < 65537; omega⟩ h3 h4 h.2.2.2.2.2.1 h.2.2.2.2.2.2.1).tr (by decide)
    · rw [if_neg hp]; exact h.tr (by decide)
theorem v_undo (h : VZ Z) : VZ (n_undo Z).2 := by
  unfold n_undo
  cases hu : zU Z with
  | nil => exact h.tr (by decide)
  | cons w u =>
    cases hT : zT Z with
    | none =>
      have h1 := h.2.2.2.2.2.2.2
      rw [hT] at h1
      rw [h1.2.1] at hu
      cases hu
    | some T =>
      obtain ⟨h1, h2, h3, h4⟩ := h.vt hT
      have h16 := h.2.2.2.2.2.1
      rw [hu] at h3 h16
      exact (h.zaa hT (h3 w (by simp)) (fun x hx => h3 x (by simp [hx])) h4 (by simp at h16; omega) h.2.2.2.2.2.2.1).tr (by decide)
theorem v_image (h : VZ Z) : VZ (n_image Z).2 := by
  unfold n_image
  cases hT : zT Z with
  | none => exact h.tr (by decide)
  | some T =>
    simp only
    obtain ⟨h1, h2, h3, h4⟩ := h.vt hT
    by_cases h5 : (zI Z).length < 3
    · rw [if_pos h5]
      refine (h.zaa hT h2 h3 (fun x hx => ?_) h.2.2.2.2.2.1 (by rw [List.length_append, List.length_singleton]; omega)).tr (by decide)
      rcases List.mem_append.mp hx with e | e
      · exact h4 x e
      · rw [List.mem_singleton.mp e]; exact h2
    · rw [if_neg h5]; exact h.tr (by decide)
theorem v_back (h : VZ Z) (v : Int32) : VZ (n_back Z v).2 := by
  unfold n_back
  cases hi : ix v (zI Z).length with
  | none => exact h.tr (by decide)
  | some i =>
    simp only
    cases hw : (zI Z)[i]? with
    | none => exact h.tr (by decide)
    | some w =>
      simp only
      have hm := List.mem_of_getElem? hw
      cases hT : zT Z with
      | none =>
        have h1 := h.2.2.2.2.2.2.2
        rw [hT] at h1
        rw [h1.2.2] at hm
        cases hm
      | some T =>
        obtain ⟨h1, h2, h3, h4⟩ := h.vt hT
        exact (h.zaa hT (h4 w hm) (fun x hx => by cases hx) h4 (Nat.zero_le _) h.2.2.2.2.2.2.1).tr (by decide)
theorem v_feed (h : VZ Z) (a b c d e : Int32) : VZ (n_feed Z a b c d e).2 := by
  unfold n_feed
  by_cases hl : 900 < zN Z + 20
  · rw [if_pos hl]; exact h
  · rw [if_neg hl]
    refine ⟨fun j => ?_, by show zN Z + 20 ≤ 900; omega, h.2.2⟩
    show (if zN Z ≤ j ∧ j < zN Z + 20 then byt a b c d e (j - zN Z) else zB Z j) < 256
    by_cases hj : zN Z ≤ j ∧ j < zN Z + 20
    · rw [if_pos hj]; unfold byt; exact Nat.mod_lt _ (by decide)
    · rw [if_neg hj]; exact h.1 j
theorem v_table (h : VZ Z) (v : Int32) : VZ (n_table Z v).2 := by
  unfold n_table
  by_cases hv : inR v 0 (zN Z) = true
  · rw [if_pos hv]
    have h900 := h.2.1
    obtain ⟨n, rfl, -, hn⟩ := inR_some (by decide) (by omega) hv
    rw [nI_clamp (by omega)]
    have hpe := PE_prs (B := zB Z) (N := n)
    cases hp : prs (zB Z) n with
    | inl x =>
      rw [hp] at hpe
      obtain ⟨f, p⟩ := x
      obtain ⟨h1, h2, h3⟩ := hpe
      exact ⟨h.1, Nat.zero_le _, by show f < 8; omega, by show p ≤ 900; omega, by show (4 : Nat) < 7; decide, h.2.2.2.2.2⟩
    | inr x =>
      rw [hp] at hpe
      obtain ⟨a, T, ls⟩ := x
      obtain ⟨h1, h2, h3⟩ := hpe
      exact ⟨h.1, Nat.zero_le _, by show (0 : Nat) < 8; decide, Nat.zero_le _, by show (0 : Nat) < 7; decide, Nat.zero_le _, Nat.zero_le _, h1, ⟨h2, by show (0 : Nat) < 65537; decide⟩, fun u hu => (by cases hu), fun u hu => (by cases hu)⟩
  · rw [if_neg hv]; exact h.tr (by decide)
/-- a table that comes has at most 14 squares -/
theorem tT_14 (h : VZ Z) {v : Int32} {t : Nat} (ht : tT Z v = some t) : t ≤ 14 := by
  unfold tT at ht
  by_cases hv : inR v 0 (zN Z) = true
  · rw [if_pos hv] at ht
    have hpe := PE_prs (B := zB Z) (N := v.toNatClampNeg)
    cases hp : prs (zB Z) v.toNatClampNeg with
    | inl x => rw [hp] at ht; cases ht
    | inr x =>
      obtain ⟨a, T, ls⟩ := x
      rw [hp] at ht hpe
      cases ht
      exact hpe.1.1.1.2.1
  · rw [if_neg hv] at ht; cases ht
theorem q7_rf {t : Nat} (h : t < 7) : (rf t).1 < 7 := h
theorem q7_ac (n : Nat) : (ac n).1 < 7 := by show 0 < 7; decide
theorem q7_oF (n : Option Nat) : (oF n).1 < 7 := by show 0 < 7; decide
theorem q7_if {c : Prop} [Decidable c] {a b : QA} (ha : a.1 < 7) (hb : b.1 < 7) : (if c then a else b).1 < 7 := by
  split
  · exact ha
  · exact hb
theorem q7_T {Z : ST} {f : TB → QA} (h : ∀ T, (f T).1 < 7) : (onT Z f).1 < 7 := by
  unfold onT
  cases zT Z with
  | none => exact q7_rf (by decide)
  | some T => exact h T
theorem q7_L {Z : ST} {v : Int32} {f : TB → Nat → LY → QA} (h : ∀ T i e, (f T i e).1 < 7) : (onL Z v f).1 < 7 := by
  unfold onL
  refine q7_T fun T => ?_
  cases ix v (allL T).length with
  | none => exact q7_rf (by decide)
  | some i =>
    simp only
    cases (allL T)[i]? with
    | none => exact q7_rf (by decide)
    | some e => exact h T i e
theorem q7_P {Z : ST} {p : Int32} {f : TB → Nat → QA} (h : ∀ T n, (f T n).1 < 7) : (onP Z p f).1 < 7 := by
  unfold onP
  exact q7_T fun T => q7_if (h T _) (q7_rf (by decide))
theorem vq_lay (Z : ST) (v w : Int32) : (q_lay Z v w).1 < 7 := by
  unfold q_lay
  first | refine q7_L fun T i e => ?_ | refine q7_P fun T n => ?_ | refine q7_T fun T => ?_
  repeat' (first | exact q7_ac _ | exact q7_oF _ | exact q7_rf (by decide) | refine q7_if ?_ ?_ | split)
theorem vq_layOf (Z : ST) (p k x y t : Int32) : (q_layOf Z p k x y t).1 < 7 := by
  unfold q_layOf
  first | refine q7_L fun T i e => ?_ | refine q7_P fun T n => ?_ | refine q7_T fun T => ?_
  repeat' (first | exact q7_ac _ | exact q7_oF _ | exact q7_rf (by decide) | refine q7_if ?_ ?_ | split)
theorem vq_may (Z : ST) (v : Int32) : (q_may Z v).1 < 7 := by
  unfold q_may
  first | refine q7_L fun T i e => ?_ | refine q7_P fun T n => ?_ | refine q7_T fun T => ?_
  repeat' (first | exact q7_ac _ | exact q7_oF _ | exact q7_rf (by decide) | refine q7_if ?_ ?_ | split)
theorem vq_lays (Z : ST) : (q_lays Z).1 < 7 := by
  unfold q_lays
  first | refine q7_L fun T i e => ?_ | refine q7_P fun T n => ?_ | refine q7_T fun T => ?_
  repeat' (first | exact q7_ac _ | exact q7_oF _ | exact q7_rf (by decide) | refine q7_if ?_ ?_ | split)
theorem vq_layAt (Z : ST) (v : Int32) : (q_layAt Z v).1 < 7 := by
  unfold q_layAt
  first | refine q7_L fun T i e => ?_ | refine q7_P fun T n => ?_ | refine q7_T fun T => ?_
  repeat' (first | exact q7_ac _ | exact q7_oF _ | exact q7_rf (by decide) | refine q7_if ?_ ?_ | split)
theorem vq_across (Z : ST) (v : Int32) : (q_across Z v).1 < 7 := by
  unfold q_across
  first | refine q7_L fun T i e => ?_ | refine q7_P fun T n => ?_ | refine q7_T fun T => ?_
  repeat' (first | exact q7_ac _ | exact q7_oF _ | exact q7_rf (by decide) | refine q7_if ?_ ?_ | split)
theorem vq_taken (Z : ST) : (q_taken Z).1 < 7 := by
  unfold q_taken
  first | refine q7_L fun T i e => ?_ | refine q7_P fun T n => ?_ | refine q7_T fun T => ?_
  repeat' (first | exact q7_ac _ | exact q7_oF _ | exact q7_rf (by decide) | refine q7_if ?_ ?_ | split)
theorem vq_dead (Z : ST) : (q_dead Z).1 < 7 := by
  unfold q_dead
  first | refine q7_L fun T i e => ?_ | refine q7_P fun T n => ?_ | refine q7_T fun T => ?_
  repeat' (first | exact q7_ac _ | exact q7_oF _ | exact q7_rf (by decide) | refine q7_if ?_ ?_ | split)
theorem vq_over (Z : ST) : (q_over Z).1 < 7 := by
  unfold q_over
  first | refine q7_L fun T i e => ?_ | refine q7_P fun T n => ?_ | refine q7_T fun T => ?_
  repeat' (first | exact q7_ac _ | exact q7_oF _ | exact q7_rf (by decide) | refine q7_if ?_ ?_ | split)
theorem vq_has (Z : ST) : (q_has Z).1 < 7 := by
  unfold q_has
  first | refine q7_L fun T i e => ?_ | refine q7_P fun T n => ?_ | refine q7_T fun T => ?_
  repeat' (first | exact q7_ac _ | exact q7_oF _ | exact q7_rf (by decide) | refine q7_if ?_ ?_ | split)
theorem vq_best (Z : ST) : (q_best Z).1 < 7 := by
  unfold q_best
  first | refine q7_L fun T i e => ?_ | refine q7_P fun T n => ?_ | refine q7_T fun T => ?_
  repeat' (first | exact q7_ac _ | exact q7_oF _ | exact q7_rf (by decide) | refine q7_if ?_ ?_ | split)
theorem vq_good (Z : ST) : (q_good Z).1 < 7 := by
  unfold q_good
  first | refine q7_L fun T i e => ?_ | refine q7_P fun T n => ?_ | refine q7_T fun T => ?_
  repeat' (first | exact q7_ac _ | exact q7_oF _ | exact q7_rf (by decide) | refine q7_if ?_ ?_ | split)
theorem vq_soonest (Z : ST) : (q_soonest Z).1 < 7 := by
  unfold q_soonest
  first | refine q7_L fun T i e => ?_ | refine q7_P fun T n => ?_ | refine q7_T fun T => ?_
  repeat' (first | exact q7_ac _ | exact q7_oF _ | exact q7_rf (by decide) | refine q7_if ?_ ?_ | split)
theorem vq_ways (Z : ST) : (q_ways Z).1 < 7 := by
  unfold q_ways
  cases zT Z with
  | none => show 1 < 7; decide
  | some T => show 0 < 7; decide
theorem vq_heap (Z : ST) (v : Int32) : (q_heap Z v).1 < 7 := by
  unfold q_heap
  first | refine q7_L fun T i e => ?_ | refine q7_P fun T n => ?_ | refine q7_T fun T => ?_
  repeat' (first | exact q7_ac _ | exact q7_oF _ | exact q7_rf (by decide) | refine q7_if ?_ ?_ | split)
theorem vq_byAcross (Z : ST) : (q_byAcross Z).1 < 7 := by
  unfold q_byAcross
  first | refine q7_L fun T i e => ?_ | refine q7_P fun T n => ?_ | refine q7_T fun T => ?_
  repeat' (first | exact q7_ac _ | exact q7_oF _ | exact q7_rf (by decide) | refine q7_if ?_ ?_ | split)
theorem vq_half (Z : ST) (v : Int32) : (q_half Z v).1 < 7 := by
  unfold q_half
  first | refine q7_L fun T i e => ?_ | refine q7_P fun T n => ?_ | refine q7_T fun T => ?_
  repeat' (first | exact q7_ac _ | exact q7_oF _ | exact q7_rf (by decide) | refine q7_if ?_ ?_ | split)
theorem vq_spoils (Z : ST) (v : Int32) : (q_spoils Z v).1 < 7 := by
  unfold q_spoils
  first | refine q7_L fun T i e => ?_ | refine q7_P fun T n => ?_ | refine q7_T fun T => ?_
  repeat' (first | exact q7_ac _ | exact q7_oF _ | exact q7_rf (by decide) | refine q7_if ?_ ?_ | split)
theorem vq_open (Z : ST) (v : Int32) : (q_open Z v).1 < 7 := by
  unfold q_open
  first | refine q7_L fun T i e => ?_ | refine q7_P fun T n => ?_ | refine q7_T fun T => ?_
  repeat' (first | exact q7_ac _ | exact q7_oF _ | exact q7_rf (by decide) | refine q7_if ?_ ?_ | split)
theorem vq_elbow (Z : ST) : (q_elbow Z).1 < 7 := by
  unfold q_elbow
  first | refine q7_L fun T i e => ?_ | refine q7_P fun T n => ?_ | refine q7_T fun T => ?_
  repeat' (first | exact q7_ac _ | exact q7_oF _ | exact q7_rf (by decide) | refine q7_if ?_ ?_ | split)
theorem vq_fewest (Z : ST) : (q_fewest Z).1 < 7 := by
  unfold q_fewest
  first | refine q7_L fun T i e => ?_ | refine q7_P fun T n => ?_ | refine q7_T fun T => ?_
  repeat' (first | exact q7_ac _ | exact q7_oF _ | exact q7_rf (by decide) | refine q7_if ?_ ?_ | split)
theorem vq_most (Z : ST) : (q_most Z).1 < 7 := by
  unfold q_most
  first | refine q7_L fun T i e => ?_ | refine q7_P fun T n => ?_ | refine q7_T fun T => ?_
  repeat' (first | exact q7_ac _ | exact q7_oF _ | exact q7_rf (by decide) | refine q7_if ?_ ?_ | split)
theorem vq_lot (Z : ST) : (q_lot Z).1 < 7 := by
  unfold q_lot
  first | refine q7_L fun T i e => ?_ | refine q7_P fun T n => ?_ | refine q7_T fun T => ?_
  repeat' (first | exact q7_ac _ | exact q7_oF _ | exact q7_rf (by decide) | refine q7_if ?_ ?_ | split)
theorem vq_would (Z : ST) (p : Int32) : (q_would Z p).1 < 7 := by
  unfold q_would
  first | refine q7_L fun T i e => ?_ | refine q7_P fun T n => ?_ | refine q7_T fun T => ?_
  repeat' (first | exact q7_ac _ | exact q7_oF _ | exact q7_rf (by decide) | refine q7_if ?_ ?_ | split)
theorem vq_match (Z : ST) (p q : Int32) : (q_match Z p q).1 < 7 := by
  unfold q_match
  first | refine q7_L fun T i e => ?_ | refine q7_P fun T n => ?_ | refine q7_T fun T => ?_
  repeat' (first | exact q7_ac _ | exact q7_oF _ | exact q7_rf (by decide) | refine q7_if ?_ ?_ | split)
theorem vq_matchLong (Z : ST) (p q : Int32) : (q_matchLong Z p q).1 < 7 := by
  unfold q_matchLong
  first | refine q7_L fun T i e => ?_ | refine q7_P fun T n => ?_ | refine q7_T fun T => ?_
  repeat' (first | exact q7_ac _ | exact q7_oF _ | exact q7_rf (by decide) | refine q7_if ?_ ?_ | split)
theorem vq_beats (Z : ST) (p : Int32) : (q_beats Z p).1 < 7 := by
  unfold q_beats
  first | refine q7_L fun T i e => ?_ | refine q7_P fun T n => ?_ | refine q7_T fun T => ?_
  repeat' (first | exact q7_ac _ | exact q7_oF _ | exact q7_rf (by decide) | refine q7_if ?_ ?_ | split)
theorem vq_size (n k : Int32) : (q_size n k).1 < 7 := by
  unfold q_size
  repeat' (first | exact q7_ac _ | exact q7_oF _ | exact q7_rf (by decide) | refine q7_if ?_ ?_ | split)
theorem vq_rows (n n2 n3 k : Int32) : (q_rows n n2 n3 k).1 < 7 := by
  unfold q_rows
  repeat' (first | exact q7_ac _ | exact q7_oF _ | exact q7_rf (by decide) | refine q7_if ?_ ?_ | split)
theorem vq_rowLay (n k v : Int32) : (q_rowLay n k v).1 < 7 := by
  unfold q_rowLay
  repeat' (first | exact q7_ac _ | exact q7_oF _ | exact q7_rf (by decide) | refine q7_if ?_ ?_ | split)
theorem vq_round (k : Int32) (st : Bool) : (q_round k st).1 < 7 := by
  unfold q_round
  repeat' (first | exact q7_ac _ | exact q7_oF _ | exact q7_rf (by decide) | refine q7_if ?_ ?_ | split)
end VZP
