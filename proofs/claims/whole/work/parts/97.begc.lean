/-! the class: begin -/
section PG12
variable {P P' : Nat → Nat} {C : Nat → CE} {xl : Nat → Nat} {L : List LY} {r : RO} {k : Nat} {U I : List RO}
theorem LDr.pg (h : LDr P xl L C k r) (hp : ∀ k, 12 ≤ k → P' k = P k) (hk : 12 ≤ k) : LDr P' xl L C k r := ⟨by rw [hp _ (by omega)]; exact h.1, h.2⟩
theorem LDs.pg (h : LDs P C k) (hp : ∀ k, 12 ≤ k → P' k = P k) (hk : 12 ≤ k) : LDs P' C k := by
  obtain ⟨⟨c, t, s, h1⟩, h2⟩ := h
  exact ⟨⟨c, t, s, by rw [hp _ (by omega)]; exact h1⟩, h2⟩
theorem PAr.pg (h : PAr P xl L C U I) (hp : ∀ k, 12 ≤ k → P' k = P k) : PAr P' xl L C U I := by
  obtain ⟨top, g, g', a1, a2, ⟨a3, a3'⟩, ⟨a4, a4'⟩, a5, a6, a7, a8, a9, a10⟩ := h
  exact ⟨top, g, g', a1, by rw [hp 17 (by decide), hp 18 (by decide)]; exact a2, ⟨a3, fun i hi => by rw [hp _ (by omega)]; exact a3' i hi⟩, ⟨a4, fun i hi => by rw [hp _ (by omega)]; exact a4' i hi⟩, fun i hi => (a5 i hi).pg hp (by omega), fun i hi => (a6 i hi).pg hp (by omega), fun j u hu => (a7 j u hu).pg hp (by omega), fun j u hu => (a8 j u hu).pg hp (by omega), a9, a10⟩
theorem RWr.pg (h : RWr P C) (hp : ∀ k, 12 ≤ k → P' k = P k) : RWr P' C := by
  obtain ⟨g, md, sn, st, a1, ⟨a2, a2'⟩, a3, a4, a5, a6, a7, a8⟩ := h
  exact ⟨g, md, sn, st, by rw [hp 61 (by decide), hp 72 (by decide), hp 73 (by decide), hp 74 (by decide)]; exact a1, ⟨a2, fun i hi => by rw [hp _ (by omega)]; exact a2' i hi⟩, a3, a4, a5, a6, a7, a8⟩
end PG12
/-- the Outlook's bound behind a table of t squares -/
def nN (N t : Nat) : Nat := N % 1024 + 1 + 1024 * max (N / 1024) t
theorem nN_m {N t : Nat} (h : N % 1024 < 1023) : nN N t % 1024 = N % 1024 + 1 ∧ nN N t / 1024 = max (N / 1024) t := by
  unfold nN
  omega
section BEG
variable {l : Launch} {G : GG} {d mc ms : Nat} {N : Nat} {P : Nat → Nat} {τ : Hp} {C : Nat → CE} {Q : Nat → Prop} {X : TX} {T : TB} {ls : List Nat} {a1 a2 a3 a4 : Int32} {a5 : Option Nat} {U I : List RO} {xl0 : Nat → Nat} {L0 : List LY}
theorem s_X11_begin (hS : SS P τ Q X T) (h0 : C 0 = O11 (some (P 1)) a1 a2 a3 a4 a5 (some (P 2)) (some (P 12)) (some (P 14)) (some (P 16)) (some (P 57)) (some (P 60))) (hl12 : LDs P C 12) (hl14 : LDr P (xl X) (allL T) C 14 (ls, 0)) (hG : GD (allL T) ls) (hpa : PAr P xl0 L0 C U I) (hou : OUg P N C) (hN : N % 1024 < 1023) (hmc : 10 ≤ mc) (hms : N / 1024 < nsq T.2.1 → 11 + 16 * 2 ^ nsq T.2.1 ≤ ms) {K : Hp → Prop}
    (hK : ∀ P' C' τ', okB 75 P' → (∀ k, k < 2 ∨ 11 < k → P' k = P k) → C' 0 = O11 (some (P' 1)) a1 a2 a3 a4 (some (xT X)) (some (P' 2)) (some (P' 12)) (some (P' 14)) (some (P' 16)) (some (P' 57)) (some (P' 60)) → (∀ j, j = 1 ∨ j = 14 ∨ j = 15 ∨ 56 < j → C' j = C j) → LDr P' (xl X) (allL T) C' 12 (ls, 0) → PAr P' (xl X) (allL T) C' [] [] → OUr P' X T (nN N (nsq T.2.1)) C' → (∀ q, τ q ≠ none → outB 75 P q → outB 75 P' q ∧ ch 75 P' C' τ' q = τ q) → K (ch 75 P' C' τ')) : C_X11_begin l G (d + 2) mc ms (P 0) (xT X) (ch 75 P C τ) K := by
  have hB := hS.1
  obtain ⟨m1, m2⟩ := nN_m (t := nsq T.2.1) hN
  have hn14 := hS.2.2.2.1.2.1
  refine m_X11_begin (rv_c hB (by decide) (by rw [h0]; exact ⟨_, rfl⟩)) ?_
  simp only [F_X11_begin, fI_c hB, fZ_c hB, fJ_c hB, fR_c hB, fN_c hB, pF_c hB, gI_c hB, gZ_c hB, gJ_c hB, gN_c hB, sI_c hB, sZ_c hB, sJ_c hB, sN_c hB, aL_c hB, Nat.reduceLT, h0, rR11_0, rN11_0, rP11_0, rI11_1, rP11_1, rI11_2, rP11_2, rI11_3, rP11_3, rI11_4, rP11_4, rR11_5, rN11_5, rP11_5, rR11_6, rN11_6, rP11_6, rR11_7, rN11_7, rP11_7, rR11_8, rN11_8, rP11_8, rR11_9, rN11_9, rP11_9, rR11_10, rN11_10, rP11_10, rR11_11, rN11_11, rP11_11, up_a, ↓reduceIte]
  have hC1 : ∀ j, j ≠ 0 → up_ C 0 (O11 (some (P 1)) a1 a2 a3 a4 (some (xT X)) (some (P 2)) (some (P 12)) (some (P 14)) (some (P 16)) (some (P 57)) (some (P 60))) j = C j := fun j hj => up_ne hj
  have h01 : up_ C 0 (O11 (some (P 1)) a1 a2 a3 a4 (some (xT X)) (some (P 2)) (some (P 12)) (some (P 14)) (some (P 16)) (some (P 57)) (some (P 60))) 0 = O11 (some (P 1)) a1 a2 a3 a4 (some (xT X)) (some (P 2)) (some (P 12)) (some (P 14)) (some (P 16)) (some (P 57)) (some (P 60)) := up_eq ..
  generalize up_ C 0 (O11 (some (P 1)) a1 a2 a3 a4 (some (xT X)) (some (P 2)) (some (P 12)) (some (P 14)) (some (P 16)) (some (P 57)) (some (P 60))) = C1 at hC1 h01
  refine s_X1_copy (d := d) (k := 12) (k' := 14) hB (by decide) (by decide) (Or.inl (by decide)) (hl14.cg (hC1 _ (by decide)) (hC1 _ (by decide))) (hl12.cg (hC1 _ (by decide)) (hC1 _ (by decide))) (hS.lys hG) fun C2 c2 l2 => ?_
  have h02 := (c2 0 (by omega)).trans h01
  simp only [fI_c hB, fZ_c hB, fJ_c hB, fR_c hB, fN_c hB, pF_c hB, gI_c hB, gZ_c hB, gJ_c hB, gN_c hB, sI_c hB, sZ_c hB, sJ_c hB, sN_c hB, aL_c hB, Nat.reduceLT, h02, rR11_0, rN11_0, rP11_0, rI11_1, rP11_1, rI11_2, rP11_2, rI11_3, rP11_3, rI11_4, rP11_4, rR11_5, rN11_5, rP11_5, rR11_6, rN11_6, rP11_6, rR11_7, rN11_7, rP11_7, rR11_8, rN11_8, rP11_8, rR11_9, rN11_9, rP11_9, rR11_10, rN11_10, rP11_10, rR11_11, rN11_11, rP11_11]
  refine s_X4_clear (d := d) hB ((hpa.cg fun j x y => hC1 j (by omega)).cg fun j x y => c2 j (by omega)) fun C3 c3 p3 => ?_
  have h03 := (c3 0 (by omega)).trans h02
  have hc3 : ∀ j, 0 < j → j < 12 ∨ 13 < j → j < 16 ∨ 56 < j → C3 j = C j := fun j x y z => (c3 j (by omega)).trans ((c2 j (by omega)).trans (hC1 j (by omega)))
  have l3 : LDr P (xl X) (allL T) C3 12 (ls, 0) := l2.cg (c3 _ (by omega)) (c3 _ (by omega))
  obtain ⟨tb, st, s, S, o1, o2, o3, o4, o5, o6⟩ := hou.cg fun k x y => hc3 k (by omega) (by omega) (by omega)
  have hX := hS.hX C3
  have h23 : C3 2 = O3 tb (nI st) (some (P 3)) (some (P 4)) (some (P 5)) (some (P 6)) (some (P 7)) (some (P 8)) (some (P 9)) (some (P 10)) (some (P 11)) := o6 2 (by decide) (by decide)
  have h11 : C3 11 = iA (2 ^ s) (gv S) := o6 11 (by decide) (by decide)
  have hps : 2 ^ s ≤ 16384 := Nat.pow_le_pow_right (by decide) o1
  have hpn : 2 ^ nsq T.2.1 ≤ 16384 := Nat.pow_le_pow_right (by decide) hn14
  simp only [fI_c hB, fZ_c hB, fJ_c hB, fR_c hB, fN_c hB, pF_c hB, gI_c hB, gZ_c hB, gJ_c hB, gN_c hB, sI_c hB, sZ_c hB, sJ_c hB, sN_c hB, aL_c hB, Nat.reduceLT, h03, rR11_0, rN11_0, rP11_0, rI11_1, rP11_1, rI11_2, rP11_2, rI11_3, rP11_3, rI11_4, rP11_4, rR11_5, rN11_5, rP11_5, rR11_6, rN11_6, rP11_6, rR11_7, rN11_7, rP11_7, rR11_8, rN11_8, rP11_8, rR11_9, rN11_9, rP11_9, rR11_10, rN11_10, rP11_10, rR11_11, rN11_11, rP11_11]
  refine m_X3_hasRoomFor (rv_c hB (by decide) (by rw [h23]; exact ⟨_, rfl⟩)) ?_
  simp only [F_X3_hasRoomFor_19, F_X3_hasRoomFor, fI_c hB, fZ_c hB, fJ_c hB, fR_c hB, fN_c hB, pF_c hB, gI_c hB, gZ_c hB, gJ_c hB, gN_c hB, sI_c hB, sZ_c hB, sJ_c hB, sN_c hB, aL_c hB, Nat.reduceLT, h23, h11, rR3_0, rN3_0, rP3_0, rI3_1, rP3_1, rR3_2, rN3_2, rP3_2, rR3_3, rN3_3, rP3_3, rR3_4, rN3_4, rP3_4, rR3_5, rN3_5, rP3_5, rR3_6, rN3_6, rP3_6, rR3_7, rN3_7, rP3_7, rR3_8, rN3_8, rP3_8, rR3_9, rN3_9, rP3_9, rR3_10, rN3_10, rP3_10, xI_r, xZ_r, xJ_r, xN_r, yI_r, yZ_r, yJ_r, yN_r, cL_i, cL_z, cL_j, cL_r, fI_at hX.1.2, rZ8_0, rP8_0, rZ8_1, rP8_1, rZ8_2, rP8_2, rR8_3, rN8_3, rP8_3, rR8_4, rN8_4, rP8_4, rI8_5, rP8_5, rI8_6, rP8_6, rZ8_7, rP8_7, rR8_8, rN8_8, rP8_8]
  rw [nt_one (by omega), nt_lt (by omega) (by omega)]
  have hlt : 2 ^ s < 2 ^ nsq T.2.1 ↔ s < nsq T.2.1 := Nat.pow_lt_pow_iff_right (by decide)
  rw [hlt]
  refine ⟨fun e => ⟨fun hc => (by cases hc), fun _ => ?_⟩, fun e => ⟨fun _ => ?_, fun hc => by cases hc⟩⟩
  · -- a larger Outlook is made
    have hms' := hms (by omega)
    refine ⟨by omega, by omega, fun q hq => ?_⟩
    have hX2 := hs_new (c := O3 none 0 none none none none none none none none none) hX.1.2 hq
    simp only [fI_at hX2, rZ8_0, rP8_0, rZ8_1, rP8_1, rZ8_2, rP8_2, rR8_3, rN8_3, rP8_3, rR8_4, rN8_4, rP8_4, rI8_5, rP8_5, rI8_6, rP8_6, rZ8_7, rP8_7, rR8_8, rN8_8, rP8_8]
    refine ⟨mc - 1, ms - 11, Nat.le_refl _, Nat.le_refl _, s_X3_init (d := d) (s := nsq T.2.1) (hset_eq ..) hn14 (by omega) (by omega) fun R D σ' r1 r2 r3 r4 => ?_⟩
    obtain ⟨-, rB, rC, rN, rK⟩ := r1
    rw [r2] at rK
    have hqP : ∀ k, k < 75 → P k ≠ q := fun k hk e => by
      have := ch_a (C := C3) (τ := τ) hB hk
      rw [e, hq] at this
      cases this
    have hPc : ∀ k, k < 75 → σ' (P k) = some (C3 k) := fun k hk => rK.at (hs_new (ch_a hB hk) hq) (hqP k hk)
    have hRP : ∀ j k, j < 10 → k < 75 → R j ≠ P k := fun j k hj hk e => by
      by_cases e0 : j = 0
      · rw [e0, r2] at e; exact hqP k hk e.symm
      · have h9 := rN j (by omega) hj
        rw [e, hset_ne (hqP k hk), ch_a hB hk] at h9
        cases h9
    have h0' : σ' (P 0) = _ := (hPc 0 (by decide)).trans (congrArg some h03)
    simp only [pF_at h0', rR11_0, rN11_0, rP11_0, rI11_1, rP11_1, rI11_2, rP11_2, rI11_3, rP11_3, rI11_4, rP11_4, rR11_5, rN11_5, rP11_5, rR11_6, rN11_6, rP11_6, rR11_7, rN11_7, rP11_7, rR11_8, rN11_8, rP11_8, rR11_9, rN11_9, rP11_9, rR11_10, rN11_10, rP11_10, rR11_11, rN11_11, rP11_11]
    simp only [F_X11_begin_49]
    have hq1 : hset σ' (P 0) (O11 (some (P 1)) a1 a2 a3 a4 (some (xT X)) (some q) (some (P 12)) (some (P 14)) (some (P 16)) (some (P 57)) (some (P 60))) q = some (O3 none 0 (some (R 1)) (some (R 2)) (some (R 3)) (some (R 4)) (some (R 5)) (some (R 6)) (some (R 7)) (some (R 8)) (some (R 9))) := by
      rw [hset_ne (Ne.symm (hqP 0 (by decide))), ← r2, rC 0 (by decide), r3]
    simp only [fN_hs, rR11_0, rN11_0, rP11_0, rI11_1, rP11_1, rI11_2, rP11_2, rI11_3, rP11_3, rI11_4, rP11_4, rR11_5, rN11_5, rP11_5, rR11_6, rN11_6, rP11_6, rR11_7, rN11_7, rP11_7, rR11_8, rN11_8, rP11_8, rR11_9, rN11_9, rP11_9, rR11_10, rN11_10, rP11_10, rR11_11, rN11_11, rP11_11]
    refine m_X3_turnTo (rv_at hq1 ⟨_, rfl⟩) ?_
    simp only [F_X3_turnTo, pF_at hq1, rR3_0, rN3_0, rP3_0, rI3_1, rP3_1, rR3_2, rN3_2, rP3_2, rR3_3, rN3_3, rP3_3, rR3_4, rN3_4, rP3_4, rR3_5, rN3_5, rP3_5, rR3_6, rN3_6, rP3_6, rR3_7, rN3_7, rP3_7, rR3_8, rN3_8, rP3_8, rR3_9, rN3_9, rP3_9, rR3_10, rN3_10, rP3_10, fI_hs, pF_hs]
    have hP2 : ∀ k, (k < 2 ∨ 11 < k) → (fun k => if 2 ≤ k ∧ k ≤ 11 then R (k - 2) else P k) k = P k := fun k hk => if_neg (by omega)
    have hP3 : ∀ k, 2 ≤ k → k ≤ 11 → (fun k => if 2 ≤ k ∧ k ≤ 11 then R (k - 2) else P k) k = R (k - 2) := fun k x y => if_pos ⟨x, y⟩
    have hok : okB 75 (fun k => if 2 ≤ k ∧ k ≤ 11 then R (k - 2) else P k) := by
      intro j k hj hk e
      dsimp only at e
      by_cases e1 : 2 ≤ j ∧ j ≤ 11 <;> by_cases e2 : 2 ≤ k ∧ k ≤ 11
      · rw [if_pos e1, if_pos e2] at e
        have := rB (j - 2) (k - 2) (by omega) (by omega) e
        omega
      · rw [if_pos e1, if_neg e2] at e
        exact absurd e (hRP _ _ (by omega) hk)
      · rw [if_neg e1, if_pos e2] at e
        exact absurd e.symm (hRP _ _ (by omega) hj)
      · rw [if_neg e1, if_neg e2] at e
        exact hB j k hj hk e
    have hRG : RG (fun k => if 2 ≤ k ∧ k ≤ 11 then R (k - 2) else P k) (fun k => if k = 0 then O11 (some (P 1)) a1 a2 a3 a4 (some (xT X)) (some q) (some (P 12)) (some (P 14)) (some (P 16)) (some (P 57)) (some (P 60)) else if k = 2 then O3 (some (xT X)) (0 + 1) (some (R 1)) (some (R 2)) (some (R 3)) (some (R 4)) (some (R 5)) (some (R 6)) (some (R 7)) (some (R 8)) (some (R 9)) else if 2 ≤ k ∧ k ≤ 11 then D (k - 2) else C3 k) (hset (hset σ' (P 0) (O11 (some (P 1)) a1 a2 a3 a4 (some (xT X)) (some q) (some (P 12)) (some (P 14)) (some (P 16)) (some (P 57)) (some (P 60)))) q (O3 (some (xT X)) (0 + 1) (some (R 1)) (some (R 2)) (some (R 3)) (some (R 4)) (some (R 5)) (some (R 6)) (some (R 7)) (some (R 8)) (some (R 9)))) := by
      intro k hk
      dsimp only
      by_cases e1 : 2 ≤ k ∧ k ≤ 11
      · rw [if_pos e1, if_neg (by omega)]
        by_cases e2 : k = 2
        · subst e2
          rw [if_pos rfl, show (2 - 2 : Nat) = 0 from rfl, r2, hset_eq]
        · have hne : R (k - 2) ≠ q := fun e => by
            have := rB (k - 2) 0 (by omega) (by decide) (e.trans r2.symm)
            omega
          rw [if_neg e2, if_pos e1, hset_ne hne, hset_ne (hRP _ _ (by omega) (by decide))]
          exact rC _ (by omega)
      · rw [if_neg e1, hset_ne (hqP k hk)]
        by_cases e0 : k = 0
        · subst e0
          rw [if_pos rfl, hset_eq]
        · rw [if_neg e0, if_neg (by omega), if_neg e1, hset_ne fun e => e0 (hB k 0 hk (by decide) e), hPc k hk]
    have hself := hRG.c
    have hkeep : ∀ z, τ z ≠ none → outB 75 P z → outB 75 (fun k => if 2 ≤ k ∧ k ≤ 11 then R (k - 2) else P k) z ∧ (hset (hset σ' (P 0) (O11 (some (P 1)) a1 a2 a3 a4 (some (xT X)) (some q) (some (P 12)) (some (P 14)) (some (P 16)) (some (P 57)) (some (P 60)))) q (O3 (some (xT X)) (0 + 1) (some (R 1)) (some (R 2)) (some (R 3)) (some (R 4)) (some (R 5)) (some (R 6)) (some (R 7)) (some (R 8)) (some (R 9)))) z = τ z := by
      intro z hz ho
      have hz1 : ch 75 P C3 τ z = τ z := ch_r ho
      have hzq : z ≠ q := fun e => by rw [← e, hz1] at hq; exact hz hq
      have hz2 : hset (ch 75 P C3 τ) q (O3 none 0 none none none none none none none none none) z = τ z := (hset_ne hzq).trans hz1
      refine ⟨fun k hk e => ?_, ?_⟩
      · dsimp only at e
        by_cases e1 : 2 ≤ k ∧ k ≤ 11
        · rw [if_pos e1] at e
          by_cases e2 : k - 2 = 0
          · rw [e2, r2] at e; exact hzq e.symm
          · have h9 := rN (k - 2) (by omega) (by omega)
            rw [e, hz2] at h9
            exact hz h9
        · rw [if_neg e1] at e; exact ho k hk e
      · rw [hset_ne hzq, hset_ne (Ne.symm (ho 0 (by decide))), rK.2 z (by rw [hz2]; exact hz) hzq, hz2]
    have hfin := hK _ _ _ hok hP2 ?_ ?_ ?_ ?_ ?_ (by rw [hself]; exact hkeep)
    · rw [hself] at hfin; exact hfin
    · try dsimp only
      simp only [if_true, Nat.reduceLeDiff, and_true, true_and, false_and, and_false, and_self, ↓reduceIte, Nat.sub_self, r2]
    · intro j hj
      try dsimp only
      rw [if_neg (by omega), if_neg (by omega), if_neg (by omega)]
      exact hc3 j (by omega) (by omega) (by omega)
    · refine (l3.pg (P' := fun k => if 2 ≤ k ∧ k ≤ 11 then R (k - 2) else P k) (fun k hk => hP2 k (by omega)) (by decide)).cg ?_ ?_
      · rw [if_neg (by omega), if_neg (by omega), if_neg (by omega)]
      · rw [if_neg (by omega), if_neg (by omega), if_neg (by omega)]
    · refine ((p3 _ _).pg (P' := fun k => if 2 ≤ k ∧ k ≤ 11 then R (k - 2) else P k) fun k hk => hP2 k (by omega)).cg fun j x y => ?_
      rw [if_neg (by omega), if_neg (by omega), if_neg (by omega)]
    · obtain ⟨q1, q2, q3, q4, q5, q6, q7, q8, q9⟩ := r4
      refine ⟨1, nsq T.2.1, (fun _ => 0, fun _ => false, fun _ => 0, fun _ => 0, fun _ => 0, fun _ => 0, fun _ => 0, fun _ => 0, fun _ => 0), hn14, Nat.le_refl _, by omega, by omega, ⟨fun j hj => ⟨0, by decide, rfl⟩, fun j hj => ⟨0, by decide, rfl⟩, fun tk who _ _ hc => absurd hc (by show ¬ ((0 : Int32) = nI 1); decide), fun tk _ hc => absurd hc (by show ¬ ((0 : Int32) = nI 1); decide)⟩, fun k hk1 hk2 => ?_⟩
      obtain rfl | rfl | rfl | rfl | rfl | rfl | rfl | rfl | rfl | rfl : k = 2 ∨ k = 3 ∨ k = 4 ∨ k = 5 ∨ k = 6 ∨ k = 7 ∨ k = 8 ∨ k = 9 ∨ k = 10 ∨ k = 11 := by omega
      · rfl
      · exact q1
      · exact q2
      · exact q3
      · exact q4
      · exact q5
      · exact q6
      · exact q7
      · exact q8
      · exact q9
  · -- the Outlook has room
    simp only [F_X11_begin_49, fI_c hB, fZ_c hB, fJ_c hB, fR_c hB, fN_c hB, pF_c hB, gI_c hB, gZ_c hB, gJ_c hB, gN_c hB, sI_c hB, sZ_c hB, sJ_c hB, sN_c hB, aL_c hB, Nat.reduceLT, h03, rR11_0, rN11_0, rP11_0, rI11_1, rP11_1, rI11_2, rP11_2, rI11_3, rP11_3, rI11_4, rP11_4, rR11_5, rN11_5, rP11_5, rR11_6, rN11_6, rP11_6, rR11_7, rN11_7, rP11_7, rR11_8, rN11_8, rP11_8, rR11_9, rN11_9, rP11_9, rR11_10, rN11_10, rP11_10, rR11_11, rN11_11, rP11_11]
    refine m_X3_turnTo (rv_c hB (by decide) (by rw [h23]; exact ⟨_, rfl⟩)) ?_
    simp only [F_X3_turnTo, fI_c hB, fZ_c hB, fJ_c hB, fR_c hB, fN_c hB, pF_c hB, gI_c hB, gZ_c hB, gJ_c hB, gN_c hB, sI_c hB, sZ_c hB, sJ_c hB, sN_c hB, aL_c hB, Nat.reduceLT, h23, rR3_0, rN3_0, rP3_0, rI3_1, rP3_1, rR3_2, rN3_2, rP3_2, rR3_3, rN3_3, rP3_3, rR3_4, rN3_4, rP3_4, rR3_5, rN3_5, rP3_5, rR3_6, rN3_6, rP3_6, rR3_7, rN3_7, rP3_7, rR3_8, rN3_8, rP3_8, rR3_9, rN3_9, rP3_9, rR3_10, rN3_10, rP3_10, up_a, ↓reduceIte, show nI st + 1 = nI (st + 1) from nt_add st 1]
    have hu : up_ (up_ C3 2 (O3 (some (xT X)) (nI st) (some (P 3)) (some (P 4)) (some (P 5)) (some (P 6)) (some (P 7)) (some (P 8)) (some (P 9)) (some (P 10)) (some (P 11)))) 2 (O3 (some (xT X)) (nI (st + 1)) (some (P 3)) (some (P 4)) (some (P 5)) (some (P 6)) (some (P 7)) (some (P 8)) (some (P 9)) (some (P 10)) (some (P 11))) = up_ C3 2 (O3 (some (xT X)) (nI (st + 1)) (some (P 3)) (some (P 4)) (some (P 5)) (some (P 6)) (some (P 7)) (some (P 8)) (some (P 9)) (some (P 10)) (some (P 11))) := funext fun z => by simp only [up_a]; split <;> rfl
    rw [hu]
    refine hK P _ τ hB (fun _ _ => rfl) ((up_ne (by decide)).trans h03) (fun j hj => (up_ne (by omega)).trans (hc3 j (by omega) (by omega) (by omega))) (l3.cg (up_ne (by decide)) (up_ne (by decide))) ((p3 _ _).cg fun j x y => up_ne (by omega)) ⟨st + 1, s, S, o1, by omega, by omega, by omega, ⟨fun j hj => ?_, fun j hj => ?_, fun tk who htk hwho hc => ?_, fun tk htk hc => ?_⟩, fun k hk1 hk2 => ?_⟩ fun q hq ho => ⟨ho, ch_r ho⟩
    · obtain ⟨x, hx, e⟩ := o4 j hj
      exact ⟨x, by omega, e⟩
    · obtain ⟨x, hx, e⟩ := o5 j hj
      exact ⟨x, by omega, e⟩
    · exfalso
      have hj : sc tk who < 2 * 2 ^ s := by unfold sc; omega
      obtain ⟨x, hx, e⟩ := o4 _ hj
      rw [e, nt_eq (by omega) (by omega)] at hc
      omega
    · exfalso
      obtain ⟨x, hx, e⟩ := o5 _ htk
      rw [e, nt_eq (by omega) (by omega)] at hc
      omega
    · by_cases e2 : k = 2
      · subst e2; rw [up_eq]; rfl
      · rw [up_ne e2, o6 k hk1 hk2]
        obtain rfl | rfl | rfl | rfl | rfl | rfl | rfl | rfl | rfl : k = 3 ∨ k = 4 ∨ k = 5 ∨ k = 6 ∨ k = 7 ∨ k = 8 ∨ k = 9 ∨ k = 10 ∨ k = 11 := by omega
        all_goals rfl
end BEG
