/-! the class: table -/
def tT (Z : ST) (v : Int32) : Option Nat := if inR v 0 (zN Z) then (match prs (zB Z) v.toNatClampNeg with
  | .inl _ => none
  | .inr (_, T, _) => some (nsq T.2.1)) else none
def tN (Z : ST) (N : Nat) (v : Int32) : Nat := match tT Z v with
  | none => N
  | some t => nN N t
def gct (Z : ST) (N : Nat) (v : Int32) : Nat := match tT Z v with
  | none => 0
  | some t => if N / 1024 < t then 16 * 2 ^ t else 0
section TABC
variable {l : Launch} {G : GG} {d mc ms : Nat} {Z : ST} {N : Nat} {Mo : Nat → Prop} {P : Nat → Nat} {τ : Hp} {C : Nat → CE}
theorem p_X11_table (hZ : VZ Z) (hC : CI Z N Mo P τ C) (hMo : ∀ q, Mo q → outB 75 P q ∧ τ q ≠ none) (hE : τ (gE G) = some (rA 6 0 fun _ => none)) (hoE : outB 75 P (gE G)) (hME : ¬ Mo (gE G)) (hN : N % 1024 < 1023) {v : Int32} (hmc : 500 ≤ mc) (hms : 3300 + gct Z N v ≤ ms) {K : Int32 → Hp → Prop} (hK : ∀ P' C' τ', CI (n_table Z v).2 (tN Z N v) Mo P' τ' C' → P' 0 = P 0 → (∀ q, τ q ≠ none → outB 75 P q → outB 75 P' q ∧ ch 75 P' C' τ' q = τ q) → K (n_table Z v).1 (ch 75 P' C' τ')) : C_X11_table l G (d + 30) mc ms (P 0) v (ch 75 P C τ) K := by
  obtain ⟨Q, X, h⟩ := hC
  have hB := h.1
  have h900 := hZ.2.1
  obtain ⟨fp, h0, h0'⟩ := h.2.2.1
  obtain ⟨⟨f, h1, h1'⟩, h12, h14, hpa, ⟨h57, h58⟩, hrw⟩ := h.2.2.2.1
  have hou := h.2.2.2.2.1
  refine m_X11_table (rv_0 h) ?_
  have hno : inR v 0 (zN Z) = false → F_X11_table_12 l G (d + 29) (P 0) (ch 75 P C τ) mc ms K := by
    intro e
    simp only [n_table, tN, tT, e, Bool.false_eq_true, if_false] at hK
    simp only [F_X11_table_12]
    exact s_X11_refuse (d := d + 28) (t := 2) h (by decide) fun C' h' => hK P C' τ h' rfl fun q hq ho => ⟨ho, ch_r ho⟩
  simp only [F_X11_table]
  refine ⟨fun e => hno ?_, fun e => ?_⟩
  · rw [inR, decide_eq_false (show ¬ (¬ v < nI 0 ∧ ¬ nI (zN Z) < v) from fun hc => hc.1 e)]
  obtain ⟨n, hn31, rfl⟩ := nt_of e
  simp only [g_len h]
  rw [nt_le hn31 (by omega)]
  refine ⟨fun hn => ?_, fun hn => hno ?_⟩
  rotate_left
  · rw [inR, decide_eq_false (show ¬ (¬ nI n < nI 0 ∧ ¬ nI (zN Z) < nI n) from fun hc => hc.2 ((nt_lt (by omega) hn31).mpr (by omega)))]
  have hin : inR (nI n) 0 (zN Z) = true := by
    rw [inR, decide_eq_true ⟨e, fun hc => by rw [nt_lt (by omega) hn31] at hc; omega⟩]
  have hnc : (nI n).toNatClampNeg = n := nI_clamp hn31
  simp only [n_table, tN, tT, hin, if_true, hnc] at hK
  simp only [gct, tT, hin, if_true, hnc] at hms
  clear hno
  have ha4 : ∀ x y : Int32, x = y → x = y := fun _ _ h => h
  simp only [fI_c hB, fZ_c hB, fJ_c hB, fR_c hB, fN_c hB, pF_c hB, gI_c hB, gZ_c hB, gJ_c hB, gN_c hB, sI_c hB, sZ_c hB, sJ_c hB, sN_c hB, aL_c hB, Nat.reduceLT, h0, rR11_0, rN11_0, rP11_0, rI11_1, rP11_1, rI11_2, rP11_2, rI11_3, rP11_3, rI11_4, rP11_4, rR11_5, rN11_5, rP11_5, rR11_6, rN11_6, rP11_6, rR11_7, rN11_7, rP11_7, rR11_8, rN11_8, rP11_8, rR11_9, rN11_9, rP11_9, rR11_10, rN11_10, rP11_10, rR11_11, rN11_11, rP11_11, up_a, ↓reduceIte]
  have hC1 : ∀ j, j ≠ 0 → up_ C 0 (O11 (some (P 1)) 0 (nI (zF Z)) fp (nI (zR Z)) ((zT Z).map fun _ => xT X) (some (P 2)) (some (P 12)) (some (P 14)) (some (P 16)) (some (P 57)) (some (P 60))) j = C j := fun j hj => up_ne hj
  have h01 : up_ C 0 (O11 (some (P 1)) 0 (nI (zF Z)) fp (nI (zR Z)) ((zT Z).map fun _ => xT X) (some (P 2)) (some (P 12)) (some (P 14)) (some (P 16)) (some (P 57)) (some (P 60))) 0 = O11 (some (P 1)) 0 (nI (zF Z)) fp (nI (zR Z)) ((zT Z).map fun _ => xT X) (some (P 2)) (some (P 12)) (some (P 14)) (some (P 16)) (some (P 57)) (some (P 60)) := up_eq ..
  generalize up_ C 0 (O11 (some (P 1)) 0 (nI (zF Z)) fp (nI (zR Z)) ((zT Z).map fun _ => xT X) (some (P 2)) (some (P 12)) (some (P 14)) (some (P 16)) (some (P 57)) (some (P 60))) = C1 at hC1 h01
  refine s_X1_clear (d := d + 28) (k := 14) hB (by decide) (h14.cg (hC1 _ (by decide)) (hC1 _ (by decide))) fun C2 c2 l2 => ?_
  have h02 := (c2 0 (by omega)).trans h01
  have hC2 : ∀ j, j ≠ 0 → j ≠ 14 → j ≠ 15 → C2 j = C j := fun j x y z => (c2 j (by omega)).trans (hC1 j x)
  have hst : ∀ k, k < 75 → ch 75 P C2 τ (P k) = some (C2 k) := fun k hk => ch_a hB hk
  have hso : ∀ q, outB 75 P q → ch 75 P C2 τ q = τ q := fun q hq => ch_r hq
  have hE0 : ch 75 P C2 τ (gE G) = some (rA 6 0 fun _ => none) := (hso _ hoE).trans hE
  generalize ch 75 P C2 τ = σ0 at hst hso hE0
  refine ⟨by omega, by omega, fun te hte => ⟨by omega, by omega, fun tk htk => ?_⟩⟩
  have nte : ∀ k, k < 75 → te ≠ P k := fun k hk e => by rw [e, hst k hk] at hte; cases hte
  have ntE : te ≠ gE G := fun e => by rw [e, hE0] at hte; cases hte
  have k1 : Kp (fun _ => False) σ0 (hset σ0 te (O9 none none none 0 0 0 0 0)) := Kp.set fun hc => absurd hte hc
  have hte1 : (hset σ0 te (O9 none none none 0 0 0 0 0)) te = some (O9 none none none 0 0 0 0 0) := hset_eq ..
  change hset σ0 te (O9 none none none 0 0 0 0 0) tk = none at htk
  show fN (hset (hset σ0 te (O9 none none none 0 0 0 0 0)) tk (O10 none 0 0 0 0)) (P 0) 11 0 _
  generalize hset σ0 te (O9 none none none 0 0 0 0 0) = σ1 at k1 hte1 htk ⊢
  have htk0 := k1.fr htk
  have ntk : ∀ k, k < 75 → tk ≠ P k := fun k hk e => by rw [e, hst k hk] at htk0; cases htk0
  have ntkE : tk ≠ gE G := fun e => by rw [e, hE0] at htk0; cases htk0
  have ntt : te ≠ tk := fun e => by rw [← e, hte1] at htk; cases htk
  have k2 : Kp (fun _ => False) σ0 (hset σ1 tk (O10 none 0 0 0 0)) := k1.sset fun hc => absurd htk0 hc
  have hv2 := k2.at (hst 0 (by decide)) fun hc => hc
  rw [h02] at hv2
  simp only [fN_at hv2, rR11_0, rN11_0, rP11_0, rI11_1, rP11_1, rI11_2, rP11_2, rI11_3, rP11_3, rI11_4, rP11_4, rR11_5, rN11_5, rP11_5, rR11_6, rN11_6, rP11_6, rR11_7, rN11_7, rP11_7, rR11_8, rN11_8, rP11_8, rR11_9, rN11_9, rP11_9, rR11_10, rN11_10, rP11_10, rR11_11, rN11_11, rP11_11]
  refine s_X10_init (d := d + 28) (hset_eq ..) ?_
  rw [hset2]
  have k3 : Kp (fun _ => False) σ0 (hset σ1 tk (O10 (some (P 1)) (nI n) 0 0 0)) := k1.sset fun hc => absurd htk0 hc
  have htk3 : (hset σ1 tk (O10 (some (P 1)) (nI n) 0 0 0)) tk = some (O10 (some (P 1)) (nI n) 0 0 0) := hset_eq ..
  have hte3 : (hset σ1 tk (O10 (some (P 1)) (nI n) 0 0 0)) te = some (O9 none none none 0 0 0 0 0) := (hset_ne ntt).trans hte1
  generalize hset σ1 tk (O10 (some (P 1)) (nI n) 0 0 0) = σ3 at k3 htk3 hte3
  have hv3 := k3.at (hst 0 (by decide)) fun hc => hc
  rw [h02] at hv3
  simp only [fN_at hv3, rR11_0, rN11_0, rP11_0, rI11_1, rP11_1, rI11_2, rP11_2, rI11_3, rP11_3, rI11_4, rP11_4, rR11_5, rN11_5, rP11_5, rR11_6, rN11_6, rP11_6, rR11_7, rN11_7, rP11_7, rR11_8, rN11_8, rP11_8, rR11_9, rN11_9, rP11_9, rR11_10, rN11_10, rP11_10, rR11_11, rN11_11, rP11_11]
  have hE3 := k3.at hE0 fun hc => hc
  refine ⟨4, 15, by omega, by omega, ?_⟩
  refine s_X9_init (d := d + 24) (W := fun q => σ0 q = none ∨ q = gE G) hte3 hE3 (fun q hq => Or.inl (k3.fr hq)) (Or.inr rfl) (by decide) (by decide) fun σ4 X2 la k34 hte4 hT => ?_
  have k4 : Kp (fun _ => False) σ0 σ4 := k3.tr2 k34 fun z hz e => by rw [e] at hz; exact hz hte
  have htk4 := k34.at htk3 (Ne.symm ntt)
  have hE4 := k4.at hE0 fun hc => hc
  have hWP : ∀ k, k < 75 → ¬ (σ0 (P k) = none ∨ P k = gE G) := fun k hk hc => hc.elim (fun e => by rw [hst k hk] at e; cases e) fun e => hoE k hk e
  have hG4 : RG P C2 σ4 := fun k hk => k4.at (hst k hk) fun hc => hc
  have hv : ∀ j, j < n → f j = nI (zB Z j) := fun j hj => h1' j (by omega)
  refine ⟨476, 3160, by omega, by omega, ?_⟩
  have hR : RS (fun f p => prs (zB Z) n = .inl (f, p)) (fun a T ls => prs (zB Z) n = .inr (a, T, ls)) (prs (zB Z) n) := by
    cases prs (zB Z) n with
    | inl x => rfl
    | inr x => rfl
  have k05 : ∀ {σ5}, Kp (WL (fun q => σ0 q = none ∨ q = gE G) G P) σ4 σ5 → Kp (fun q => q = P 14 ∨ q = P 15) σ0 σ5 := fun {σ5} k => (k4.mo fun _ _ hc => hc.elim).tr2 k fun z hz hs => by
    rcases hs with ⟨h1 | h1, h2⟩ | h1
    · exact absurd h1 hz
    · exact absurd h1 h2
    · exact h1
  refine s_X9_readAll (d := d + 15) hB hWP ⟨by omega, hZ.1, f, (hG4 1 (by decide)).trans (congrArg some ((hC2 1 (by decide) (by decide) (by decide)).trans h1)), hv⟩ htk4 hte4 ⟨hE4, fun q hq => Or.inl (k4.fr hq), ⟨Or.inl hte, ntE⟩, Or.inl htk0, ntkE⟩ hG4 (l2 _ _) hT (by decide) (by decide) hR (fun f' p he σ5 C5 k5 c5 g5 l5 fl5 => ?_) fun a T ls he σ5 C5 X5 nm pf ps k5 c5 g5 t5 l5 x5 => ?_
  · -- the text is faulty
    rw [he] at hK
    have k := k05 k5
    obtain ⟨_, _, _, _, _, _, hte5⟩ := fl5
    have h05 := (c5 0 (by omega)).trans h02
    have hv5 := (g5 0 (by decide)).trans (congrArg some h05)
    have hte6 := fun c => (hset_ne (c := c) (σ := σ5) (nte 0 (by decide))).trans hte5
    simp only [fI_at hte5, rR9_0, rN9_0, rP9_0, rR9_1, rN9_1, rP9_1, rR9_2, rN9_2, rP9_2, rI9_3, rP9_3, rI9_4, rP9_4, rJ9_5, rP9_5, rI9_6, rP9_6, rI9_7, rP9_7, pF_at hv5, rR11_0, rN11_0, rP11_0, rI11_1, rP11_1, rI11_2, rP11_2, rI11_3, rP11_3, rI11_4, rP11_4, rR11_5, rN11_5, rP11_5, rR11_6, rN11_6, rP11_6, rR11_7, rN11_7, rP11_7, rR11_8, rN11_8, rP11_8, rR11_9, rN11_9, rP11_9, rR11_10, rN11_10, rP11_10, rR11_11, rN11_11, rP11_11, fI_at (hte6 _), pF_hs]
    refine ⟨fun hc => (by cases hc), fun _ => ?_⟩
    refine m_X11_refuse (rv_at (hset_eq ..) ⟨_, rfl⟩) ?_
    simp only [F_X11_refuse, pF_hs, rR11_0, rN11_0, rP11_0, rI11_1, rP11_1, rI11_2, rP11_2, rI11_3, rP11_3, rI11_4, rP11_4, rR11_5, rN11_5, rP11_5, rR11_6, rN11_6, rP11_6, rR11_7, rN11_7, rP11_7, rR11_8, rN11_8, rP11_8, rR11_9, rN11_9, rP11_9, rR11_10, rN11_10, rP11_10, rR11_11, rN11_11, rP11_11]
    have hC5 : ∀ j, j ≠ 0 → j ≠ 14 → j ≠ 15 → C5 j = C j := fun j x y z => (c5 j (by omega)).trans (hC2 j x y z)
    have efin : ∀ c, hset σ5 (P 0) c = ch 75 P (up_ C5 0 c) σ5 := fun c => by rw [← ch_set hB (by decide), g5.c]
    rw [efin]
    have hcj : ∀ c j, j ≠ 0 → j ≠ 14 → j ≠ 15 → up_ C5 0 c j = C j := fun c j x y z => (up_ne x).trans (hC5 j x y z)
    refine hK P _ σ5 ⟨Q, X, hB, h.2.1, ⟨nI p, up_eq .., fun _ => rfl⟩, ⟨⟨f, (hcj _ 1 (by decide) (by decide) (by decide)).trans h1, fun j hj => by cases hj⟩, h12.ck fun j x y => hcj _ j (by omega) (by omega) (by omega), l5.cg (up_ne (by decide)) (up_ne (by decide)), hpa.cg fun j x y => hcj _ j (by omega) (by omega) (by omega), ⟨(hcj _ 57 (by decide) (by decide) (by decide)).trans h57, h58.ck fun j x y => hcj _ j (by omega) (by omega) (by omega)⟩, hrw.cg fun j x y => hcj _ j (by omega) (by omega) (by omega)⟩, hou.cg fun j x y => hcj _ j (by omega) (by omega) (by omega), fun T hT => ⟨((h.2.2.2.2.2 T hT).1.mo (σ' := σ0) fun q hq => hso q (h.2.1 q hq).1).kp k fun q hq hs => ?_, (h.2.2.2.2.2 T hT).2.cg fun j x y => hcj _ j (by omega) (by omega) (by omega)⟩⟩ rfl fun q hq ho => ⟨ho, ?_⟩
    · rcases hs with e | e
      · exact (h.2.1 q hq).1 14 (by decide) e.symm
      · exact (h.2.1 q hq).1 15 (by decide) e.symm
    · rw [ch_r ho, k.2 q (by rw [hso q ho]; exact hq) fun hs => hs.elim (fun e => ho 14 (by decide) e.symm) fun e => ho 15 (by decide) e.symm, hso q ho]
  · -- a table
    have hpe := PE_prs (B := zB Z) (N := n)
    rw [he] at hpe hK hms
    obtain ⟨⟨hW, hlaw, hb0, hp0⟩, hGD, h8⟩ := hpe
    simp only at hms hK
    have k := k05 k5
    obtain ⟨pl, hte5⟩ := t5
    have h05 := (c5 0 (by omega)).trans h02
    have hv5 := (g5 0 (by decide)).trans (congrArg some h05)
    have hte6 := fun c => (hset_ne (c := c) (σ := σ5) (nte 0 (by decide))).trans hte5
    simp only [fI_at hte5, rR9_0, rN9_0, rP9_0, rR9_1, rN9_1, rP9_1, rR9_2, rN9_2, rP9_2, rI9_3, rP9_3, rI9_4, rP9_4, rJ9_5, rP9_5, rI9_6, rP9_6, rI9_7, rP9_7, pF_at hv5, rR11_0, rN11_0, rP11_0, rI11_1, rP11_1, rI11_2, rP11_2, rI11_3, rP11_3, rI11_4, rP11_4, rR11_5, rN11_5, rP11_5, rR11_6, rN11_6, rP11_6, rR11_7, rN11_7, rP11_7, rR11_8, rN11_8, rP11_8, rR11_9, rN11_9, rP11_9, rR11_10, rN11_10, rP11_10, rR11_11, rN11_11, rP11_11, fI_at (hte6 _), pF_hs, fN_at (hte6 _)]
    refine ⟨fun _ => ?_, fun hc => by cases hc⟩
    have hC5 : ∀ j, j ≠ 0 → j ≠ 14 → j ≠ 15 → C5 j = C j := fun j x y z => (c5 j (by omega)).trans (hC2 j x y z)
    have efin : ∀ c, hset σ5 (P 0) c = ch 75 P (up_ C5 0 c) σ5 := fun c => by rw [← ch_set hB (by decide), g5.c]
    rw [efin]
    have hcj : ∀ c j, j ≠ 0 → j ≠ 14 → j ≠ 15 → up_ C5 0 c j = C j := fun c j x y z => (up_ne x).trans (hC5 j x y z)
    have x6 : TBr (fun q => ((σ0 q = none ∨ q = gE G) ∧ q ≠ te ∧ q ≠ tk) ∧ σ5 q ≠ none) σ5 X5 T := x5.sb fun q c hq hc _ => ⟨hq, by rw [hc]; simp⟩
    have hQo : ∀ q, (((σ0 q = none ∨ q = gE G) ∧ q ≠ te ∧ q ≠ tk) ∧ σ5 q ≠ none) → outB 75 P q := fun q hq k hk e => hWP k hk (by rw [e]; exact hq.1.1)
    refine ⟨_, _, Nat.le_refl _, Nat.le_refl _, ?_⟩
    refine s_X11_begin (d := d + 27) (N := N) ⟨hB, x6, hQo, hW⟩ (up_eq ..) ((h12.ck fun j x y => hcj _ j (by omega) (by omega) (by omega)).s) (l5.cg (up_ne (by decide)) (up_ne (by decide))) hGD (hpa.cg fun j x y => hcj _ j (by omega) (by omega) (by omega)) (hou.cg fun j x y => hcj _ j (by omega) (by omega) (by omega)) hN (by omega) (fun hlt => ?_) fun P' C' τ' b1 b2 b3 b4 b5 b6 b7 b8 => ?_
    · rw [if_pos hlt] at hms
      omega
    · have hP0 : P' 0 = P 0 := b2 0 (by decide)
      rw [← hP0]
      have hXf : TBr (fun q => ((σ0 q = none ∨ q = gE G) ∧ q ≠ te ∧ q ≠ tk) ∧ σ5 q ≠ none) (ch 75 P' C' τ') X5 T := x6.mo fun q hq => (b8 q hq.2 (hQo q hq)).2
      simp only [fR_c b1, Nat.reduceLT, b3, rR11_0, rN11_0, rP11_0, rI11_1, rP11_1, rI11_2, rP11_2, rI11_3, rP11_3, rI11_4, rP11_4, rR11_5, rN11_5, rP11_5, rR11_6, rN11_6, rP11_6, rR11_7, rN11_7, rP11_7, rR11_8, rN11_8, rP11_8, rR11_9, rN11_9, rP11_9, rR11_10, rN11_10, rP11_10, rR11_11, rN11_11, rP11_11]
      refine ⟨_, rfl, ?_⟩
      simp only [fN_at hXf.1.2, rZ8_0, rP8_0, rZ8_1, rP8_1, rZ8_2, rP8_2, rR8_3, rN8_3, rP8_3, rR8_4, rN8_4, rP8_4, rI8_5, rP8_5, rI8_6, rP8_6, rZ8_7, rP8_7, rR8_8, rN8_8, rP8_8, hXf.aL]
      refine m_X11_accept (rv_c b1 (by decide) (by rw [b3]; exact ⟨_, rfl⟩)) ?_
      simp only [F_X11_accept, pF_c b1, Nat.reduceLT, b3, rR11_0, rN11_0, rP11_0, rI11_1, rP11_1, rI11_2, rP11_2, rI11_3, rP11_3, rI11_4, rP11_4, rR11_5, rN11_5, rP11_5, rR11_6, rN11_6, rP11_6, rR11_7, rN11_7, rP11_7, rR11_8, rN11_8, rP11_8, rR11_9, rN11_9, rP11_9, rR11_10, rN11_10, rP11_10, rR11_11, rN11_11, rP11_11]
      have hco : ∀ q, outB 75 P' q → ∀ c, ch 75 P' (up_ C' 0 c) τ' q = ch 75 P' C' τ' q := fun q ho c => by rw [ch_r ho, ch_r ho]
      have hcc : ∀ c j, j = 1 ∨ 56 < j → up_ C' 0 c j = C j := fun c j hj => (up_ne (by omega)).trans ((b4 j (by omega)).trans ((hcj _ j (by omega) (by omega) (by omega))))
      have hp12 : ∀ k, 12 ≤ k → P' k = P k := fun k hk => b2 k (by omega)
      refine hK P' _ τ' ⟨_, X5, b1, fun q hq => ⟨(b8 q hq.2 (hQo q hq)).1, fun hmo => ?_⟩, ⟨pl, up_eq .., fun e => by cases e⟩, ⟨⟨f, (hcc _ 1 (by decide)).trans h1, fun j hj => by cases hj⟩, b5.cg (up_ne (by decide)) (up_ne (by decide)), ?_, b6.cg fun j x y => up_ne (by omega), ⟨(hcc _ 57 (by decide)).trans ?_, (h58.pg hp12 (by decide)).ck fun j x y => hcc _ j (by omega)⟩, (hrw.pg hp12).cg fun j x y => hcc _ j (by omega)⟩, (b7.cg fun j x y => up_ne (by omega)).g, fun T' hT' => ?_⟩ hP0 fun q hq ho => ?_
      · obtain ⟨m1, m2⟩ := hMo q hmo
        rcases hq.1.1 with e | e
        · rw [hso q m1] at e; exact m2 e
        · exact hME (by rw [← e]; exact hmo)
      · refine (l5.s.pg hp12 (by decide)).cg ?_ ?_
        · exact (up_ne (by decide)).trans ((b4 14 (by decide)).trans (up_ne (by decide)))
        · exact (up_ne (by decide)).trans ((b4 15 (by decide)).trans (up_ne (by decide)))
      · rw [hp12 58 (by decide)]; exact h57
      · cases hT'
        exact ⟨hXf.mo fun q hq => (ch_r (b8 q hq.2 (hQo q hq)).1).symm, b7.cg fun j x y => up_ne (by omega)⟩
      · have hq0 : σ0 q ≠ none := by rw [hso q ho]; exact hq
        have hq5 : σ5 q = τ q := by rw [k.2 q hq0 fun hs => hs.elim (fun e => ho 14 (by decide) e.symm) fun e => ho 15 (by decide) e.symm, hso q ho]
        obtain ⟨g1, g2⟩ := b8 q (by rw [hq5]; exact hq) ho
        exact ⟨g1, by rw [hco q g1, g2, hq5]⟩
end TABC
